def upA (S : St) (k : Nat) (f : Nat → Int32) : St := (fun a => if a = k then f else S.1 a, S.2)
theorem up_A (S : St) (k i : Nat) (v : Int32) : up S k i v = upA S k (upd (S.1 k) i v) := rfl
/-- which Rules a number tells, and its number -/
def rs (v : Int32) : Nat := if v = 0 then 16 else 20
def sr (r : Nat) : Int32 := if r = 16 then 0 else 1
theorem rs_sr {r : Nat} (h : r = 16 ∨ r = 20) : rs (sr r) = r := by rcases h with rfl | rfl <;> rfl
theorem rs_ok (v : Int32) : rs v = 16 ∨ rs v = 20 := by
  unfold rs
  by_cases h : v = 0
  · rw [if_pos h]; exact Or.inl rfl
  · rw [if_neg h]; exact Or.inr rfl
def zb (v : Int32) : Int32 := vp_nar .boolean v
theorem set_map {α : Type} {n k : Nat} {F G : Nat → α} {e : α} (hk : k < n) (he : G k = e) (hne : ∀ j, j ≠ k → G j = F j) : ((List.range n).map F).set k e = (List.range n).map G := by
  subst he
  refine List.ext_getElem? (fun j => ?_)
  by_cases hj : j = k
  · subst hj
    rw [List.getElem?_set_self (by simpa using hk), List.getElem?_map, List.getElem?_range hk]
    rfl
  · rw [List.getElem?_set_ne (Ne.symm hj), List.getElem?_map, List.getElem?_map]
    by_cases hn : j < n
    · rw [List.getElem?_range hn]
      show some (F j) = some (G j)
      rw [hne j hj]
    · rw [List.getElem?_eq_none (by simpa using hn)]
      rfl
theorem get_map {α : Type} {n k : Nat} {F : Nat → α} (hk : k < n) : ((List.range n).map F)[k]? = some (F k) := by rw [List.getElem?_map, List.getElem?_range hk]; rfl
def ArrI (Wf : WF) (k N : Nat) : Prop := (∀ q ar S, (Wf q ar S)[k]? = some (q k, .inl (ar.1, N, .inl (S.1 k)))) ∧ ∀ q ar S f, (Wf q ar S).set k (q k, .inl (ar.1, N, .inl f)) = Wf q ar (upA S k f)
def ArrZ (Wf : WF) (k N : Nat) : Prop := (∀ q ar S, (Wf q ar S)[k]? = some (q k, .inl (ar.2.1, N, .inl (S.1 k)))) ∧ ∀ q ar S f, (Wf q ar S).set k (q k, .inl (ar.2.1, N, .inl f)) = Wf q ar (upA S k f)
section ArrRules
variable {x : Ctx} {Wf : WF} {cc : ByteArray} {own : String} {nL : Nat} {rm : Room} {ret : Option FieldType} {Q : State → Prop} {S S' : St} {pc n : Nat} {L L' : List (Nat × Value)} {st : List Value}
theorem v_ald (C : Cx x Wf cc own nL rm ret) {k N : Nat} {i : Int32} (hA : ArrI Wf k N) (hin : vp_in i N) (hd : decode cc pc = .ok (.iaload, 1)) (hn : pc + 1 = n) (kk : V x Wf nL Q S n L (.int (rd S k i.toNatClampNeg) :: st)) : V x Wf nL Q S pc L (.int i :: .ref (xq x k) :: st) := v_iald C (hA.1 _ _ _) hin hd hn kk
theorem v_zld (C : Cx x Wf cc own nL rm ret) {k N : Nat} {i : Int32} (hA : ArrZ Wf k N) (hin : vp_in i N) (hd : decode cc pc = .ok (.baload, 1)) (hn : pc + 1 = n) (kk : V x Wf nL Q S n L (.int (rd S k i.toNatClampNeg) :: st)) : V x Wf nL Q S pc L (.int i :: .ref (xq x k) :: st) := v_zald C (hA.1 _ _ _) hin hd hn kk
theorem v_ast (C : Cx x Wf cc own nL rm ret) {k N : Nat} {i v : Int32} (hA : ArrI Wf k N) (hin : vp_in i N) (hd : decode cc pc = .ok (.iastore, 1)) (hn : pc + 1 = n) (e : S' = up S k i.toNatClampNeg v) (kk : V x Wf nL Q S' n L st) : V x Wf nL Q S pc L (.int v :: .int i :: .ref (xq x k) :: st) := v_iast C (hA.1 _ _ _) hin hd hn (by rw [e]; exact hA.2 _ _ _ _) kk
theorem v_zst (C : Cx x Wf cc own nL rm ret) {k N : Nat} {i v : Int32} (hA : ArrZ Wf k N) (hin : vp_in i N) (hd : decode cc pc = .ok (.bastore, 1)) (hn : pc + 1 = n) (e : S' = up S k i.toNatClampNeg (zb v)) (kk : V x Wf nL Q S' n L st) : V x Wf nL Q S pc L (.int v :: .int i :: .ref (xq x k) :: st) := v_zast C (hA.1 _ _ _) hin hd hn (by rw [e]; exact hA.2 _ _ _ _) kk
theorem v_len (C : Cx x Wf cc own nL rm ret) {k N : Nat} {v : Int32} (hA : ArrI Wf k N) (hv : Int32.ofNat N = v) (hd : decode cc pc = .ok (.arraylength, 1)) (hn : pc + 1 = n) (kk : V x Wf nL Q S n L (.int v :: st)) : V x Wf nL Q S pc L (.ref (xq x k) :: st) := v_alen C (hA.1 _ _ _) hv hd hn kk
/-- System.arraycopy between two int arrays -/
def ckc {β : Type} (sp dp m : Int32) (n0 n1 : Nat) (k : Option β) : Option β := if sp < 0 ∨ dp < 0 ∨ m < 0 ∨ n0 < sp.toNatClampNeg + m.toNatClampNeg ∨ n1 < dp.toNatClampNeg + m.toNatClampNeg then none else k
theorem ckc_e {β : Type} {sp dp m : Int32} {n0 n1 : Nat} {k : Option β} {r : β} (h : ckc sp dp m n0 n1 k = some r) : (¬ sp < 0 ∧ ¬ dp < 0 ∧ ¬ m < 0 ∧ sp.toNatClampNeg + m.toNatClampNeg ≤ n0 ∧ dp.toNatClampNeg + m.toNatClampNeg ≤ n1) ∧ k = some r := by
  unfold ckc at h
  by_cases c : sp < 0 ∨ dp < 0 ∨ m < 0 ∨ n0 < sp.toNatClampNeg + m.toNatClampNeg ∨ n1 < dp.toNatClampNeg + m.toNatClampNeg
  · rw [if_pos c] at h; cases h
  · rw [if_neg c] at h
    exact ⟨⟨fun a => c (Or.inl a), fun a => c (Or.inr (Or.inl a)), fun a => c (Or.inr (Or.inr (Or.inl a))), Nat.le_of_not_lt fun a => c (Or.inr (Or.inr (Or.inr (Or.inl a)))), Nat.le_of_not_lt fun a => c (Or.inr (Or.inr (Or.inr (Or.inr a))))⟩, h⟩
theorem v_copy (C : Cx x Wf cc own nL rm ret) {k0 k1 N0 N1 idx : Nat} {sp dp m : Int32} (h0 : ArrI Wf k0 N0) (h1 : ArrI Wf k1 N1) (hlk : Cond.methodLink own idx arraycopyName ∈ wsL_law0) (hna : Cond.native arraycopyName ∈ wsL_law0) (hsta : Cond.static arraycopyName ∈ wsL_law0) (hini : Cond.initialized "java/lang/System" ∈ wsL_law0) (hc : ¬ sp < 0 ∧ ¬ dp < 0 ∧ ¬ m < 0 ∧ sp.toNatClampNeg + m.toNatClampNeg ≤ N0 ∧ dp.toNatClampNeg + m.toNatClampNeg ≤ N1) (hF : 1 ≤ rm.frames ∧ (st.map fun v => v.category).sum + (nativeFrameWords "java/lang/System" "arraycopy" 5 + 11) ≤ rm.locals) (hd : decode cc pc = .ok (.invokestatic idx, 3)) (hn : pc + 3 = n) (e : S' = upA S k1 (va_cpy (S.1 k0) (S.1 k1) sp.toNatClampNeg dp.toNatClampNeg m.toNatClampNeg)) (kk : V x Wf nL Q S' n L st) : V x Wf nL Q S pc L (.int m :: .int dp :: .ref (xq x k1) :: .int sp :: .ref (xq x k0) :: st) := by
  obtain ⟨p, l, en, R, s, m, args, below, meth, c, D, q, ar, A⟩ := x
  obtain ⟨hx, hb, hml, hown, hts, hK, hD, hN, hlk2, hA, hR, hr⟩ := C
  subst hn; subst hR
  intro H locs ls h hP hS
  refine va_copyi hx hb (hml.trans h.1.symm) hown (hts _ hlk) (hts _ hna) (hts _ hsta) (hts _ hini) hK hP (hD S) hS k0 k1 0 0 (h0.1 _ _ _) (h1.1 _ _ _) rfl rfl rfl hc.1 hc.2.1 hc.2.2.1 hc.2.2.2.1 hc.2.2.2.2 (fun _ _ => rfl) hF.1 hF.2 hd (fun H1 locs1 hP1 _ hS1 => kk H1 locs1 ls h ?_ hS1)
  rw [e, ← h1.2]
  exact hP1
end ArrRules
def CX (q : Nat → Nat) (ar : Ar) (f : Nat → Int32) (h : Int64) (k : Nat) : va_E := match k with
  | 0 => .inr (9, [.ref (q 1), .ref (q 3), .ref (q 6), .ref (q 24), .ref (q 27), .ref (q 29), .ref (q 31), .ref (q 32), .ref (q (rs (f 8))), .ref (q (rs (f 9)))])
  | 1 => .inr (7, [.ref (q 2), .int (f 1)])
  | 2 => .inl (ar.1, 300, .inl f)
  | 3 => .inr (3, [.int (f 0), .int (f 1), .ref (q 2), .int (f 3), .int (f 4), .int (f 5), .int (f 6), .int (f 7), .ref (q 4), .ref (q 5), .int (f 10)])
  | 4 => .inl (ar.1, 8, .inl f)
  | 5 => .inl (ar.1, 8, .inl f)
  | 6 => .inr (0, [.int (f 0), .int (f 1), .int (f 2), .int (f 3), .int (f 4), .int (f 5), .int (f 6), .ref (q 7), .ref (q 8), .ref (q 9), .ref (q 10), .ref (q 11), .ref (q 12), .ref (q 13), .ref (q 14), .ref (q 15)])
  | 7 => .inl (ar.1, 12, .inl f)
  | 8 => .inl (ar.1, 8, .inl f)
  | 9 => .inl (ar.1, 8, .inl f)
  | 10 => .inl (ar.1, 24, .inl f)
  | 11 => .inl (ar.1, 24, .inl f)
  | 12 => .inl (ar.1, 24, .inl f)
  | 13 => .inl (ar.1, 24, .inl f)
  | 14 => .inl (ar.1, 48, .inl f)
  | 15 => .inl (ar.1, 24, .inl f)
  | 16 => .inr (5, [.ref (q 17), .ref (q 18), .ref (q 19), .int (f 3), .int (f 4), .int (f 5), .int (f 6)])
  | 17 => .inl (ar.1, 8, .inl f)
  | 18 => .inl (ar.1, 8, .inl f)
  | 19 => .inl (ar.1, 8, .inl f)
  | 20 => .inr (5, [.ref (q 21), .ref (q 22), .ref (q 23), .int (f 3), .int (f 4), .int (f 5), .int (f 6)])
  | 21 => .inl (ar.1, 8, .inl f)
  | 22 => .inl (ar.1, 8, .inl f)
  | 23 => .inl (ar.1, 8, .inl f)
  | 24 => .inr (8, [.ref (q 25), .int (f 1), .ref (q 6), .ref (q 26), .ref (q (rs (f 4)))])
  | 25 => .inl (ar.1, 1501, .inl f)
  | 26 => .inl (ar.1, 8, .inl f)
  | 27 => .inr (4, [.ref (q 28)])
  | 28 => .inl (ar.1, 6, .inl f)
  | 29 => .inr (1, [.ref (q 30), .int (f 1), .ref (q 6), .ref (q 24), .int (f 4)])
  | 30 => .inl (ar.1, 2, .inl f)
  | 31 => .inr (6, [.int (f 0), .int (f 1), .ref (q 6)])
  | 32 => .inr (2, [.ref (q 33), .int (f 1), .ref (q 6), .int (f 3), .ref (q 34), .ref (q 35), .ref (q 36), .ref (q 37), .ref (q 38), .ref (q 39), .ref (q 40)])
  | 33 => .inl (ar.1, 5, .inl f)
  | 34 => .inl (ar.1, 144, .inl f)
  | 35 => .inl (ar.1, 5, .inl f)
  | 36 => .inl (ar.1, 144, .inl f)
  | 37 => .inl (ar.1, 144, .inl f)
  | 38 => .inl (ar.1, 144, .inl f)
  | 39 => .inl (ar.1, 6, .inl f)
  | _ => .inl (ar.1, 7, .inl f)
def WX : WF := fun q ar S => (List.range 41).map (fun k => (q k, CX q ar (S.1 k) S.2 k))
theorem adrX : AdrOk WX := by
  intro q ar S T k
  show ((List.map _ (List.range 41))[k]?).map Prod.fst = ((List.map _ (List.range 41))[k]?).map Prod.fst
  rw [List.getElem?_map, List.getElem?_map]
  cases (List.range 41)[k]? <;> rfl
theorem getX (q : Nat → Nat) (ar : Ar) (S : St) {k : Nat} (hk : k < 41) : (WX q ar S)[k]? = some (q k, CX q ar (S.1 k) S.2 k) := get_map hk
theorem setX (q : Nat → Nat) (ar : Ar) (S : St) {k : Nat} {f : Nat → Int32} {e : va_E} (hk : k < 41) (he : CX q ar f S.2 k = e) : (WX q ar S).set k (q k, e) = WX q ar (upA S k f) := by
  refine set_map hk ?_ ?_
  · show (q k, CX q ar (if k = k then f else S.1 k) S.2 k) = (q k, e)
    rw [if_pos rfl, he]
  · intro j hj
    show (q j, CX q ar (if j = k then f else S.1 j) S.2 j) = (q j, CX q ar (S.1 j) S.2 j)
    rw [if_neg hj]
theorem aX_2 : ArrI WX 2 300 := ⟨fun q ar S => getX q ar S (by decide), fun q ar S f => setX q ar S (by decide) rfl⟩
theorem aX_4 : ArrI WX 4 8 := ⟨fun q ar S => getX q ar S (by decide), fun q ar S f => setX q ar S (by decide) rfl⟩
theorem aX_5 : ArrI WX 5 8 := ⟨fun q ar S => getX q ar S (by decide), fun q ar S f => setX q ar S (by decide) rfl⟩
theorem aX_7 : ArrI WX 7 12 := ⟨fun q ar S => getX q ar S (by decide), fun q ar S f => setX q ar S (by decide) rfl⟩
theorem aX_8 : ArrI WX 8 8 := ⟨fun q ar S => getX q ar S (by decide), fun q ar S f => setX q ar S (by decide) rfl⟩
theorem aX_9 : ArrI WX 9 8 := ⟨fun q ar S => getX q ar S (by decide), fun q ar S f => setX q ar S (by decide) rfl⟩
theorem aX_10 : ArrI WX 10 24 := ⟨fun q ar S => getX q ar S (by decide), fun q ar S f => setX q ar S (by decide) rfl⟩
theorem aX_11 : ArrI WX 11 24 := ⟨fun q ar S => getX q ar S (by decide), fun q ar S f => setX q ar S (by decide) rfl⟩
theorem aX_12 : ArrI WX 12 24 := ⟨fun q ar S => getX q ar S (by decide), fun q ar S f => setX q ar S (by decide) rfl⟩
theorem aX_13 : ArrI WX 13 24 := ⟨fun q ar S => getX q ar S (by decide), fun q ar S f => setX q ar S (by decide) rfl⟩
theorem aX_14 : ArrI WX 14 48 := ⟨fun q ar S => getX q ar S (by decide), fun q ar S f => setX q ar S (by decide) rfl⟩
theorem aX_15 : ArrI WX 15 24 := ⟨fun q ar S => getX q ar S (by decide), fun q ar S f => setX q ar S (by decide) rfl⟩
theorem aX_17 : ArrI WX 17 8 := ⟨fun q ar S => getX q ar S (by decide), fun q ar S f => setX q ar S (by decide) rfl⟩
theorem aX_18 : ArrI WX 18 8 := ⟨fun q ar S => getX q ar S (by decide), fun q ar S f => setX q ar S (by decide) rfl⟩
theorem aX_19 : ArrI WX 19 8 := ⟨fun q ar S => getX q ar S (by decide), fun q ar S f => setX q ar S (by decide) rfl⟩
theorem aX_21 : ArrI WX 21 8 := ⟨fun q ar S => getX q ar S (by decide), fun q ar S f => setX q ar S (by decide) rfl⟩
theorem aX_22 : ArrI WX 22 8 := ⟨fun q ar S => getX q ar S (by decide), fun q ar S f => setX q ar S (by decide) rfl⟩
theorem aX_23 : ArrI WX 23 8 := ⟨fun q ar S => getX q ar S (by decide), fun q ar S f => setX q ar S (by decide) rfl⟩
theorem aX_25 : ArrI WX 25 1501 := ⟨fun q ar S => getX q ar S (by decide), fun q ar S f => setX q ar S (by decide) rfl⟩
theorem aX_26 : ArrI WX 26 8 := ⟨fun q ar S => getX q ar S (by decide), fun q ar S f => setX q ar S (by decide) rfl⟩
theorem aX_28 : ArrI WX 28 6 := ⟨fun q ar S => getX q ar S (by decide), fun q ar S f => setX q ar S (by decide) rfl⟩
theorem aX_30 : ArrI WX 30 2 := ⟨fun q ar S => getX q ar S (by decide), fun q ar S f => setX q ar S (by decide) rfl⟩
theorem aX_33 : ArrI WX 33 5 := ⟨fun q ar S => getX q ar S (by decide), fun q ar S f => setX q ar S (by decide) rfl⟩
theorem aX_34 : ArrI WX 34 144 := ⟨fun q ar S => getX q ar S (by decide), fun q ar S f => setX q ar S (by decide) rfl⟩
theorem aX_35 : ArrI WX 35 5 := ⟨fun q ar S => getX q ar S (by decide), fun q ar S f => setX q ar S (by decide) rfl⟩
theorem aX_36 : ArrI WX 36 144 := ⟨fun q ar S => getX q ar S (by decide), fun q ar S f => setX q ar S (by decide) rfl⟩
theorem aX_37 : ArrI WX 37 144 := ⟨fun q ar S => getX q ar S (by decide), fun q ar S f => setX q ar S (by decide) rfl⟩
theorem aX_38 : ArrI WX 38 144 := ⟨fun q ar S => getX q ar S (by decide), fun q ar S f => setX q ar S (by decide) rfl⟩
theorem aX_39 : ArrI WX 39 6 := ⟨fun q ar S => getX q ar S (by decide), fun q ar S f => setX q ar S (by decide) rfl⟩
theorem aX_40 : ArrI WX 40 7 := ⟨fun q ar S => getX q ar S (by decide), fun q ar S f => setX q ar S (by decide) rfl⟩
theorem aR_1 {r : Nat} (h : r = 16 ∨ r = 20) : ArrI WX (r + 1) 8 := by rcases h with rfl | rfl; exact aX_17; exact aX_21
theorem aR_2 {r : Nat} (h : r = 16 ∨ r = 20) : ArrI WX (r + 2) 8 := by rcases h with rfl | rfl; exact aX_18; exact aX_22
theorem aR_3 {r : Nat} (h : r = 16 ∨ r = 20) : ArrI WX (r + 3) 8 := by rcases h with rfl | rfl; exact aX_19; exact aX_23
def CM (q : Nat → Nat) (ar : Ar) (f : Nat → Int32) (h : Int64) (k : Nat) : va_E := match k with
  | 0 => .inr (10, [.ref (q 1), .int (f 1), .int (f 2), .int (f 3), .int (f 4), .int (f 5), .int (f 6), .ref (q 2), .int (f 8), .ref (q 3), .ref (q 4), .int (f 11), .ref (q 5), .ref (q 6), .ref (q 7), .int (f 15), .int (f 16), .ref (q 8), .ref (q 9), .ref (q 10), .ref (q 11), .ref (q 12), .ref (q 13), .int (f 23), .int (f 24), .int (f 25), .int (f 26), .int (f 27), .int (f 28), .ref (q 14), .ref (q 15), .ref (q 16), .int (f 32), .int (f 33), .ref (q 17), .ref (q 18), .ref (q 19), .int (f 37), .int (f 38), .int (f 39), .int (f 40), .int (f 41), .int (f 42), .int (f 43), .ref (q 20), .int (f 45), .ref (q 21), .ref (q 22), .int (f 48), .long (h), .int (f 50), .ref (q 23), .ref (q 24), .ref (q 25), .ref (q 26)])
  | 1 => .inl (ar.1, 300, .inl f)
  | 2 => .inl (ar.1, 48, .inl f)
  | 3 => .inl (ar.2.1, 8, .inl f)
  | 4 => .inl (ar.2.1, 8, .inl f)
  | 5 => .inl (ar.1, 24, .inl f)
  | 6 => .inl (ar.1, 12, .inl f)
  | 7 => .inl (ar.2.1, 12, .inl f)
  | 8 => .inl (ar.1, 24, .inl f)
  | 9 => .inl (ar.1, 24, .inl f)
  | 10 => .inl (ar.1, 24, .inl f)
  | 11 => .inl (ar.1, 8, .inl f)
  | 12 => .inl (ar.1, 8, .inl f)
  | 13 => .inl (ar.1, 15, .inl f)
  | 14 => .inl (ar.1, 8, .inl f)
  | 15 => .inl (ar.1, 8, .inl f)
  | 16 => .inl (ar.2.1, 4, .inl f)
  | 17 => .inl (ar.1, 1501, .inl f)
  | 18 => .inl (ar.1, 196608, .inl f)
  | 19 => .inl (ar.2.1, 8, .inl f)
  | 20 => .inl (ar.1, 6, .inl f)
  | 21 => .inl (ar.1, 2, .inl f)
  | 22 => .inl (ar.1, 2, .inl f)
  | 23 => .inl (ar.1, 5, .inl f)
  | 24 => .inl (ar.1, 5, .inl f)
  | 25 => .inl (ar.1, 24, .inl f)
  | _ => .inl (ar.1, 24, .inl f)
def WM : WF := fun q ar S => (List.range 27).map (fun k => (q k, CM q ar (S.1 k) S.2 k))
theorem adrM : AdrOk WM := by
  intro q ar S T k
  show ((List.map _ (List.range 27))[k]?).map Prod.fst = ((List.map _ (List.range 27))[k]?).map Prod.fst
  rw [List.getElem?_map, List.getElem?_map]
  cases (List.range 27)[k]? <;> rfl
theorem getM (q : Nat → Nat) (ar : Ar) (S : St) {k : Nat} (hk : k < 27) : (WM q ar S)[k]? = some (q k, CM q ar (S.1 k) S.2 k) := get_map hk
theorem setM (q : Nat → Nat) (ar : Ar) (S : St) {k : Nat} {f : Nat → Int32} {e : va_E} (hk : k < 27) (he : CM q ar f S.2 k = e) : (WM q ar S).set k (q k, e) = WM q ar (upA S k f) := by
  refine set_map hk ?_ ?_
  · show (q k, CM q ar (if k = k then f else S.1 k) S.2 k) = (q k, e)
    rw [if_pos rfl, he]
  · intro j hj
    show (q j, CM q ar (if j = k then f else S.1 j) S.2 j) = (q j, CM q ar (S.1 j) S.2 j)
    rw [if_neg hj]
theorem aM_1 : ArrI WM 1 300 := ⟨fun q ar S => getM q ar S (by decide), fun q ar S f => setM q ar S (by decide) rfl⟩
theorem aM_2 : ArrI WM 2 48 := ⟨fun q ar S => getM q ar S (by decide), fun q ar S f => setM q ar S (by decide) rfl⟩
theorem aM_3 : ArrZ WM 3 8 := ⟨fun q ar S => getM q ar S (by decide), fun q ar S f => setM q ar S (by decide) rfl⟩
theorem aM_4 : ArrZ WM 4 8 := ⟨fun q ar S => getM q ar S (by decide), fun q ar S f => setM q ar S (by decide) rfl⟩
theorem aM_5 : ArrI WM 5 24 := ⟨fun q ar S => getM q ar S (by decide), fun q ar S f => setM q ar S (by decide) rfl⟩
theorem aM_6 : ArrI WM 6 12 := ⟨fun q ar S => getM q ar S (by decide), fun q ar S f => setM q ar S (by decide) rfl⟩
theorem aM_7 : ArrZ WM 7 12 := ⟨fun q ar S => getM q ar S (by decide), fun q ar S f => setM q ar S (by decide) rfl⟩
theorem aM_8 : ArrI WM 8 24 := ⟨fun q ar S => getM q ar S (by decide), fun q ar S f => setM q ar S (by decide) rfl⟩
theorem aM_9 : ArrI WM 9 24 := ⟨fun q ar S => getM q ar S (by decide), fun q ar S f => setM q ar S (by decide) rfl⟩
theorem aM_10 : ArrI WM 10 24 := ⟨fun q ar S => getM q ar S (by decide), fun q ar S f => setM q ar S (by decide) rfl⟩
theorem aM_11 : ArrI WM 11 8 := ⟨fun q ar S => getM q ar S (by decide), fun q ar S f => setM q ar S (by decide) rfl⟩
theorem aM_12 : ArrI WM 12 8 := ⟨fun q ar S => getM q ar S (by decide), fun q ar S f => setM q ar S (by decide) rfl⟩
theorem aM_13 : ArrI WM 13 15 := ⟨fun q ar S => getM q ar S (by decide), fun q ar S f => setM q ar S (by decide) rfl⟩
theorem aM_14 : ArrI WM 14 8 := ⟨fun q ar S => getM q ar S (by decide), fun q ar S f => setM q ar S (by decide) rfl⟩
theorem aM_15 : ArrI WM 15 8 := ⟨fun q ar S => getM q ar S (by decide), fun q ar S f => setM q ar S (by decide) rfl⟩
theorem aM_16 : ArrZ WM 16 4 := ⟨fun q ar S => getM q ar S (by decide), fun q ar S f => setM q ar S (by decide) rfl⟩
theorem aM_17 : ArrI WM 17 1501 := ⟨fun q ar S => getM q ar S (by decide), fun q ar S f => setM q ar S (by decide) rfl⟩
theorem aM_18 : ArrI WM 18 196608 := ⟨fun q ar S => getM q ar S (by decide), fun q ar S f => setM q ar S (by decide) rfl⟩
theorem aM_19 : ArrZ WM 19 8 := ⟨fun q ar S => getM q ar S (by decide), fun q ar S f => setM q ar S (by decide) rfl⟩
theorem aM_20 : ArrI WM 20 6 := ⟨fun q ar S => getM q ar S (by decide), fun q ar S f => setM q ar S (by decide) rfl⟩
theorem aM_21 : ArrI WM 21 2 := ⟨fun q ar S => getM q ar S (by decide), fun q ar S f => setM q ar S (by decide) rfl⟩
theorem aM_22 : ArrI WM 22 2 := ⟨fun q ar S => getM q ar S (by decide), fun q ar S f => setM q ar S (by decide) rfl⟩
theorem aM_23 : ArrI WM 23 5 := ⟨fun q ar S => getM q ar S (by decide), fun q ar S f => setM q ar S (by decide) rfl⟩
theorem aM_24 : ArrI WM 24 5 := ⟨fun q ar S => getM q ar S (by decide), fun q ar S f => setM q ar S (by decide) rfl⟩
theorem aM_25 : ArrI WM 25 24 := ⟨fun q ar S => getM q ar S (by decide), fun q ar S f => setM q ar S (by decide) rfl⟩
theorem aM_26 : ArrI WM 26 24 := ⟨fun q ar S => getM q ar S (by decide), fun q ar S f => setM q ar S (by decide) rfl⟩
theorem setML (q : Nat → Nat) (ar : Ar) (S : St) (v : Int64) : (WM q ar S).set 0 (q 0, CM q ar (S.1 0) v 0) = WM q ar (upL S v) := by
  refine set_map (by decide) rfl ?_
  intro j hj
  show (q j, CM q ar (S.1 j) v j) = (q j, CM q ar (S.1 j) S.2 j)
  match j, hj with
  | 1, _ => rfl
  | 2, _ => rfl
  | 3, _ => rfl
  | 4, _ => rfl
  | 5, _ => rfl
  | 6, _ => rfl
  | 7, _ => rfl
  | 8, _ => rfl
  | 9, _ => rfl
  | 10, _ => rfl
  | 11, _ => rfl
  | 12, _ => rfl
  | 13, _ => rfl
  | 14, _ => rfl
  | 15, _ => rfl
  | 16, _ => rfl
  | 17, _ => rfl
  | 18, _ => rfl
  | 19, _ => rfl
  | 20, _ => rfl
  | 21, _ => rfl
  | 22, _ => rfl
  | 23, _ => rfl
  | 24, _ => rfl
  | 25, _ => rfl
  | 26, _ => rfl
  | k + 27, _ => rfl
  | 0, h => exact absurd rfl h
section Fields
variable {x : Ctx} {cc : ByteArray} {own : String} {nL : Nat} {rm : Room} {ret : Option FieldType} {Q : State → Prop} {S S' : St} {pc n idx : Nat} {L : List (Nat × Value)} {st : List Value}
theorem oX9 (q : Nat → Nat) (ar : Ar) (S : St) : (WX q ar S)[0]? = some (q 0, .inr (9, [.ref (q 1), .ref (q 3), .ref (q 6), .ref (q 24), .ref (q 27), .ref (q 29), .ref (q 31), .ref (q 32), .ref (q (rs (rd S 0 8))), .ref (q (rs (rd S 0 9)))])) := getX q ar S (by decide)
theorem g_X9_tape (C : Cx x WX cc own nL rm ret) (hlk : Cond.fieldLink own idx "LabyrinthGarden" "tape" "LLabyrinthGarden$Tape;" ∈ wsL_law0) (hd : decode cc pc = .ok (.getfield idx, 3)) (hn : pc + 3 = n) (kk : V x WX nL Q S n L (.ref (xq x 1) :: st)) : V x WX nL Q S pc L (.ref (xq x 0) :: st) := v_get C (i := 0) (oX9 _ _ _) rfl (by decide) rfl inX9 hlk hd hn kk
theorem g_X9_reader (C : Cx x WX cc own nL rm ret) (hlk : Cond.fieldLink own idx "LabyrinthGarden" "reader" "LLabyrinthGarden$Reader;" ∈ wsL_law0) (hd : decode cc pc = .ok (.getfield idx, 3)) (hn : pc + 3 = n) (kk : V x WX nL Q S n L (.ref (xq x 3) :: st)) : V x WX nL Q S pc L (.ref (xq x 0) :: st) := v_get C (i := 1) (oX9 _ _ _) rfl (by decide) rfl inX9 hlk hd hn kk
theorem g_X9_garden (C : Cx x WX cc own nL rm ret) (hlk : Cond.fieldLink own idx "LabyrinthGarden" "garden" "LLabyrinthGarden$Garden;" ∈ wsL_law0) (hd : decode cc pc = .ok (.getfield idx, 3)) (hn : pc + 3 = n) (kk : V x WX nL Q S n L (.ref (xq x 6) :: st)) : V x WX nL Q S pc L (.ref (xq x 0) :: st) := v_get C (i := 2) (oX9 _ _ _) rfl (by decide) rfl inX9 hlk hd hn kk
theorem g_X9_walker (C : Cx x WX cc own nL rm ret) (hlk : Cond.fieldLink own idx "LabyrinthGarden" "walker" "LLabyrinthGarden$Walker;" ∈ wsL_law0) (hd : decode cc pc = .ok (.getfield idx, 3)) (hn : pc + 3 = n) (kk : V x WX nL Q S n L (.ref (xq x 24) :: st)) : V x WX nL Q S pc L (.ref (xq x 0) :: st) := v_get C (i := 3) (oX9 _ _ _) rfl (by decide) rfl inX9 hlk hd hn kk
theorem g_X9_report (C : Cx x WX cc own nL rm ret) (hlk : Cond.fieldLink own idx "LabyrinthGarden" "report" "LLabyrinthGarden$Report;" ∈ wsL_law0) (hd : decode cc pc = .ok (.getfield idx, 3)) (hn : pc + 3 = n) (kk : V x WX nL Q S n L (.ref (xq x 27) :: st)) : V x WX nL Q S pc L (.ref (xq x 0) :: st) := v_get C (i := 4) (oX9 _ _ _) rfl (by decide) rfl inX9 hlk hd hn kk
theorem g_X9_helper (C : Cx x WX cc own nL rm ret) (hlk : Cond.fieldLink own idx "LabyrinthGarden" "helper" "LLabyrinthGarden$Helper;" ∈ wsL_law0) (hd : decode cc pc = .ok (.getfield idx, 3)) (hn : pc + 3 = n) (kk : V x WX nL Q S n L (.ref (xq x 29) :: st)) : V x WX nL Q S pc L (.ref (xq x 0) :: st) := v_get C (i := 5) (oX9 _ _ _) rfl (by decide) rfl inX9 hlk hd hn kk
theorem g_X9_story (C : Cx x WX cc own nL rm ret) (hlk : Cond.fieldLink own idx "LabyrinthGarden" "story" "LLabyrinthGarden$Tale;" ∈ wsL_law0) (hd : decode cc pc = .ok (.getfield idx, 3)) (hn : pc + 3 = n) (kk : V x WX nL Q S n L (.ref (xq x 31) :: st)) : V x WX nL Q S pc L (.ref (xq x 0) :: st) := v_get C (i := 6) (oX9 _ _ _) rfl (by decide) rfl inX9 hlk hd hn kk
theorem g_X9_homer (C : Cx x WX cc own nL rm ret) (hlk : Cond.fieldLink own idx "LabyrinthGarden" "homer" "LLabyrinthGarden$Homer;" ∈ wsL_law0) (hd : decode cc pc = .ok (.getfield idx, 3)) (hn : pc + 3 = n) (kk : V x WX nL Q S n L (.ref (xq x 32) :: st)) : V x WX nL Q S pc L (.ref (xq x 0) :: st) := v_get C (i := 7) (oX9 _ _ _) rfl (by decide) rfl inX9 hlk hd hn kk
theorem g_X9_rulesInUse (C : Cx x WX cc own nL rm ret) (hlk : Cond.fieldLink own idx "LabyrinthGarden" "rulesInUse" "LLabyrinthGarden$Rules;" ∈ wsL_law0) (hd : decode cc pc = .ok (.getfield idx, 3)) (hn : pc + 3 = n) (kk : V x WX nL Q S n L (.ref (xq x (rs (rd S 0 8))) :: st)) : V x WX nL Q S pc L (.ref (xq x 0) :: st) := v_get C (i := 8) (oX9 _ _ _) rfl (by decide) rfl inX9 hlk hd hn kk
theorem p_X9_rulesInUse {r : Nat} (hr : r = 16 ∨ r = 20) (C : Cx x WX cc own nL rm ret) (hlk : Cond.fieldLink own idx "LabyrinthGarden" "rulesInUse" "LLabyrinthGarden$Rules;" ∈ wsL_law0) (hd : decode cc pc = .ok (.putfield idx, 3)) (hn : pc + 3 = n) (e : S' = up S 0 8 (sr r)) (kk : V x WX nL Q S' n L st) : V x WX nL Q S pc L (.ref (xq x r) :: .ref (xq x 0) :: st) := by
  subst e
  exact v_put C (i := 8) (ty := .object "LabyrinthGarden$Rules") (oX9 _ _ _) rfl (by decide) (Nat.le_of_ble_eq_true rfl) inX9 tyX9 tyX9_ok nmX9 rfl (by decide +kernel) rfl rfl hlk hd hn (setX _ _ _ (by decide) (by rcases hr with rfl | rfl <;> rfl)) kk
theorem g_X9_rulesToFill (C : Cx x WX cc own nL rm ret) (hlk : Cond.fieldLink own idx "LabyrinthGarden" "rulesToFill" "LLabyrinthGarden$Rules;" ∈ wsL_law0) (hd : decode cc pc = .ok (.getfield idx, 3)) (hn : pc + 3 = n) (kk : V x WX nL Q S n L (.ref (xq x (rs (rd S 0 9))) :: st)) : V x WX nL Q S pc L (.ref (xq x 0) :: st) := v_get C (i := 9) (oX9 _ _ _) rfl (by decide) rfl inX9 hlk hd hn kk
theorem p_X9_rulesToFill {r : Nat} (hr : r = 16 ∨ r = 20) (C : Cx x WX cc own nL rm ret) (hlk : Cond.fieldLink own idx "LabyrinthGarden" "rulesToFill" "LLabyrinthGarden$Rules;" ∈ wsL_law0) (hd : decode cc pc = .ok (.putfield idx, 3)) (hn : pc + 3 = n) (e : S' = up S 0 9 (sr r)) (kk : V x WX nL Q S' n L st) : V x WX nL Q S pc L (.ref (xq x r) :: .ref (xq x 0) :: st) := by
  subst e
  exact v_put C (i := 9) (ty := .object "LabyrinthGarden$Rules") (oX9 _ _ _) rfl (by decide) (Nat.le_of_ble_eq_true rfl) inX9 tyX9 tyX9_ok nmX9 rfl (by decide +kernel) rfl rfl hlk hd hn (setX _ _ _ (by decide) (by rcases hr with rfl | rfl <;> rfl)) kk
theorem oX7 (q : Nat → Nat) (ar : Ar) (S : St) : (WX q ar S)[1]? = some (q 1, .inr (7, [.ref (q 2), .int (rd S 1 1)])) := getX q ar S (by decide)
theorem g_X7_bytes (C : Cx x WX cc own nL rm ret) (hlk : Cond.fieldLink own idx "LabyrinthGarden$Tape" "bytes" "[I" ∈ wsL_law0) (hd : decode cc pc = .ok (.getfield idx, 3)) (hn : pc + 3 = n) (kk : V x WX nL Q S n L (.ref (xq x 2) :: st)) : V x WX nL Q S pc L (.ref (xq x 1) :: st) := v_get C (i := 0) (oX7 _ _ _) rfl (by decide) rfl inX7 hlk hd hn kk
theorem g_X7_size (C : Cx x WX cc own nL rm ret) (hlk : Cond.fieldLink own idx "LabyrinthGarden$Tape" "size" "I" ∈ wsL_law0) (hd : decode cc pc = .ok (.getfield idx, 3)) (hn : pc + 3 = n) (kk : V x WX nL Q S n L (.int (rd S 1 1) :: st)) : V x WX nL Q S pc L (.ref (xq x 1) :: st) := v_get C (i := 1) (oX7 _ _ _) rfl (by decide) rfl inX7 hlk hd hn kk
theorem p_X7_size (C : Cx x WX cc own nL rm ret) {v : Int32} (hlk : Cond.fieldLink own idx "LabyrinthGarden$Tape" "size" "I" ∈ wsL_law0) (hd : decode cc pc = .ok (.putfield idx, 3)) (hn : pc + 3 = n) (e : S' = up S 1 1 v) (kk : V x WX nL Q S' n L st) : V x WX nL Q S pc L (.int v :: .ref (xq x 1) :: st) := by
  subst e
  exact v_put C (i := 1) (ty := .int) (oX7 _ _ _) rfl (by decide) (Nat.le_of_ble_eq_true rfl) inX7 tyX7 tyX7_ok nmX7 rfl (by decide +kernel) rfl rfl hlk hd hn (setX _ _ _ (by decide) rfl) kk
theorem oX3 (q : Nat → Nat) (ar : Ar) (S : St) : (WX q ar S)[3]? = some (q 3, .inr (3, [.int (rd S 3 0), .int (rd S 3 1), .ref (q 2), .int (rd S 3 3), .int (rd S 3 4), .int (rd S 3 5), .int (rd S 3 6), .int (rd S 3 7), .ref (q 4), .ref (q 5), .int (rd S 3 10)])) := getX q ar S (by decide)
theorem g_X3_fault (C : Cx x WX cc own nL rm ret) (hlk : Cond.fieldLink own idx "LabyrinthGarden$Reader" "fault" "I" ∈ wsL_law0) (hd : decode cc pc = .ok (.getfield idx, 3)) (hn : pc + 3 = n) (kk : V x WX nL Q S n L (.int (rd S 3 0) :: st)) : V x WX nL Q S pc L (.ref (xq x 3) :: st) := v_get C (i := 0) (oX3 _ _ _) rfl (by decide) rfl inX3 hlk hd hn kk
theorem p_X3_fault (C : Cx x WX cc own nL rm ret) {v : Int32} (hlk : Cond.fieldLink own idx "LabyrinthGarden$Reader" "fault" "I" ∈ wsL_law0) (hd : decode cc pc = .ok (.putfield idx, 3)) (hn : pc + 3 = n) (e : S' = up S 3 0 v) (kk : V x WX nL Q S' n L st) : V x WX nL Q S pc L (.int v :: .ref (xq x 3) :: st) := by
  subst e
  exact v_put C (i := 0) (ty := .int) (oX3 _ _ _) rfl (by decide) (Nat.le_of_ble_eq_true rfl) inX3 tyX3 tyX3_ok nmX3 rfl (by decide +kernel) rfl rfl hlk hd hn (setX _ _ _ (by decide) rfl) kk
theorem g_X3_faultAt (C : Cx x WX cc own nL rm ret) (hlk : Cond.fieldLink own idx "LabyrinthGarden$Reader" "faultAt" "I" ∈ wsL_law0) (hd : decode cc pc = .ok (.getfield idx, 3)) (hn : pc + 3 = n) (kk : V x WX nL Q S n L (.int (rd S 3 1) :: st)) : V x WX nL Q S pc L (.ref (xq x 3) :: st) := v_get C (i := 1) (oX3 _ _ _) rfl (by decide) rfl inX3 hlk hd hn kk
theorem p_X3_faultAt (C : Cx x WX cc own nL rm ret) {v : Int32} (hlk : Cond.fieldLink own idx "LabyrinthGarden$Reader" "faultAt" "I" ∈ wsL_law0) (hd : decode cc pc = .ok (.putfield idx, 3)) (hn : pc + 3 = n) (e : S' = up S 3 1 v) (kk : V x WX nL Q S' n L st) : V x WX nL Q S pc L (.int v :: .ref (xq x 3) :: st) := by
  subst e
  exact v_put C (i := 1) (ty := .int) (oX3 _ _ _) rfl (by decide) (Nat.le_of_ble_eq_true rfl) inX3 tyX3 tyX3_ok nmX3 rfl (by decide +kernel) rfl rfl hlk hd hn (setX _ _ _ (by decide) rfl) kk
theorem g_X3_text (C : Cx x WX cc own nL rm ret) (hlk : Cond.fieldLink own idx "LabyrinthGarden$Reader" "text" "[I" ∈ wsL_law0) (hd : decode cc pc = .ok (.getfield idx, 3)) (hn : pc + 3 = n) (kk : V x WX nL Q S n L (.ref (xq x 2) :: st)) : V x WX nL Q S pc L (.ref (xq x 3) :: st) := v_get C (i := 2) (oX3 _ _ _) rfl (by decide) rfl inX3 hlk hd hn kk
theorem g_X3_length (C : Cx x WX cc own nL rm ret) (hlk : Cond.fieldLink own idx "LabyrinthGarden$Reader" "length" "I" ∈ wsL_law0) (hd : decode cc pc = .ok (.getfield idx, 3)) (hn : pc + 3 = n) (kk : V x WX nL Q S n L (.int (rd S 3 3) :: st)) : V x WX nL Q S pc L (.ref (xq x 3) :: st) := v_get C (i := 3) (oX3 _ _ _) rfl (by decide) rfl inX3 hlk hd hn kk
theorem p_X3_length (C : Cx x WX cc own nL rm ret) {v : Int32} (hlk : Cond.fieldLink own idx "LabyrinthGarden$Reader" "length" "I" ∈ wsL_law0) (hd : decode cc pc = .ok (.putfield idx, 3)) (hn : pc + 3 = n) (e : S' = up S 3 3 v) (kk : V x WX nL Q S' n L st) : V x WX nL Q S pc L (.int v :: .ref (xq x 3) :: st) := by
  subst e
  exact v_put C (i := 3) (ty := .int) (oX3 _ _ _) rfl (by decide) (Nat.le_of_ble_eq_true rfl) inX3 tyX3 tyX3_ok nmX3 rfl (by decide +kernel) rfl rfl hlk hd hn (setX _ _ _ (by decide) rfl) kk
theorem g_X3_position (C : Cx x WX cc own nL rm ret) (hlk : Cond.fieldLink own idx "LabyrinthGarden$Reader" "position" "I" ∈ wsL_law0) (hd : decode cc pc = .ok (.getfield idx, 3)) (hn : pc + 3 = n) (kk : V x WX nL Q S n L (.int (rd S 3 4) :: st)) : V x WX nL Q S pc L (.ref (xq x 3) :: st) := v_get C (i := 4) (oX3 _ _ _) rfl (by decide) rfl inX3 hlk hd hn kk
theorem p_X3_position (C : Cx x WX cc own nL rm ret) {v : Int32} (hlk : Cond.fieldLink own idx "LabyrinthGarden$Reader" "position" "I" ∈ wsL_law0) (hd : decode cc pc = .ok (.putfield idx, 3)) (hn : pc + 3 = n) (e : S' = up S 3 4 v) (kk : V x WX nL Q S' n L st) : V x WX nL Q S pc L (.int v :: .ref (xq x 3) :: st) := by
  subst e
  exact v_put C (i := 4) (ty := .int) (oX3 _ _ _) rfl (by decide) (Nat.le_of_ble_eq_true rfl) inX3 tyX3 tyX3_ok nmX3 rfl (by decide +kernel) rfl rfl hlk hd hn (setX _ _ _ (by decide) rfl) kk
theorem g_X3_token (C : Cx x WX cc own nL rm ret) (hlk : Cond.fieldLink own idx "LabyrinthGarden$Reader" "token" "I" ∈ wsL_law0) (hd : decode cc pc = .ok (.getfield idx, 3)) (hn : pc + 3 = n) (kk : V x WX nL Q S n L (.int (rd S 3 5) :: st)) : V x WX nL Q S pc L (.ref (xq x 3) :: st) := v_get C (i := 5) (oX3 _ _ _) rfl (by decide) rfl inX3 hlk hd hn kk
theorem p_X3_token (C : Cx x WX cc own nL rm ret) {v : Int32} (hlk : Cond.fieldLink own idx "LabyrinthGarden$Reader" "token" "I" ∈ wsL_law0) (hd : decode cc pc = .ok (.putfield idx, 3)) (hn : pc + 3 = n) (e : S' = up S 3 5 v) (kk : V x WX nL Q S' n L st) : V x WX nL Q S pc L (.int v :: .ref (xq x 3) :: st) := by
  subst e
  exact v_put C (i := 5) (ty := .int) (oX3 _ _ _) rfl (by decide) (Nat.le_of_ble_eq_true rfl) inX3 tyX3 tyX3_ok nmX3 rfl (by decide +kernel) rfl rfl hlk hd hn (setX _ _ _ (by decide) rfl) kk
theorem g_X3_tokenAt (C : Cx x WX cc own nL rm ret) (hlk : Cond.fieldLink own idx "LabyrinthGarden$Reader" "tokenAt" "I" ∈ wsL_law0) (hd : decode cc pc = .ok (.getfield idx, 3)) (hn : pc + 3 = n) (kk : V x WX nL Q S n L (.int (rd S 3 6) :: st)) : V x WX nL Q S pc L (.ref (xq x 3) :: st) := v_get C (i := 6) (oX3 _ _ _) rfl (by decide) rfl inX3 hlk hd hn kk
theorem p_X3_tokenAt (C : Cx x WX cc own nL rm ret) {v : Int32} (hlk : Cond.fieldLink own idx "LabyrinthGarden$Reader" "tokenAt" "I" ∈ wsL_law0) (hd : decode cc pc = .ok (.putfield idx, 3)) (hn : pc + 3 = n) (e : S' = up S 3 6 v) (kk : V x WX nL Q S' n L st) : V x WX nL Q S pc L (.int v :: .ref (xq x 3) :: st) := by
  subst e
  exact v_put C (i := 6) (ty := .int) (oX3 _ _ _) rfl (by decide) (Nat.le_of_ble_eq_true rfl) inX3 tyX3 tyX3_ok nmX3 rfl (by decide +kernel) rfl rfl hlk hd hn (setX _ _ _ (by decide) rfl) kk
theorem g_X3_tokenValue (C : Cx x WX cc own nL rm ret) (hlk : Cond.fieldLink own idx "LabyrinthGarden$Reader" "tokenValue" "I" ∈ wsL_law0) (hd : decode cc pc = .ok (.getfield idx, 3)) (hn : pc + 3 = n) (kk : V x WX nL Q S n L (.int (rd S 3 7) :: st)) : V x WX nL Q S pc L (.ref (xq x 3) :: st) := v_get C (i := 7) (oX3 _ _ _) rfl (by decide) rfl inX3 hlk hd hn kk
theorem p_X3_tokenValue (C : Cx x WX cc own nL rm ret) {v : Int32} (hlk : Cond.fieldLink own idx "LabyrinthGarden$Reader" "tokenValue" "I" ∈ wsL_law0) (hd : decode cc pc = .ok (.putfield idx, 3)) (hn : pc + 3 = n) (e : S' = up S 3 7 v) (kk : V x WX nL Q S' n L st) : V x WX nL Q S pc L (.int v :: .ref (xq x 3) :: st) := by
  subst e
  exact v_put C (i := 7) (ty := .int) (oX3 _ _ _) rfl (by decide) (Nat.le_of_ble_eq_true rfl) inX3 tyX3 tyX3_ok nmX3 rfl (by decide +kernel) rfl rfl hlk hd hn (setX _ _ _ (by decide) rfl) kk
theorem g_X3_meant (C : Cx x WX cc own nL rm ret) (hlk : Cond.fieldLink own idx "LabyrinthGarden$Reader" "meant" "[I" ∈ wsL_law0) (hd : decode cc pc = .ok (.getfield idx, 3)) (hn : pc + 3 = n) (kk : V x WX nL Q S n L (.ref (xq x 4) :: st)) : V x WX nL Q S pc L (.ref (xq x 3) :: st) := v_get C (i := 8) (oX3 _ _ _) rfl (by decide) rfl inX3 hlk hd hn kk
theorem g_X3_meantAt (C : Cx x WX cc own nL rm ret) (hlk : Cond.fieldLink own idx "LabyrinthGarden$Reader" "meantAt" "[I" ∈ wsL_law0) (hd : decode cc pc = .ok (.getfield idx, 3)) (hn : pc + 3 = n) (kk : V x WX nL Q S n L (.ref (xq x 5) :: st)) : V x WX nL Q S pc L (.ref (xq x 3) :: st) := v_get C (i := 9) (oX3 _ _ _) rfl (by decide) rfl inX3 hlk hd hn kk
theorem g_X3_meantCount (C : Cx x WX cc own nL rm ret) (hlk : Cond.fieldLink own idx "LabyrinthGarden$Reader" "meantCount" "I" ∈ wsL_law0) (hd : decode cc pc = .ok (.getfield idx, 3)) (hn : pc + 3 = n) (kk : V x WX nL Q S n L (.int (rd S 3 10) :: st)) : V x WX nL Q S pc L (.ref (xq x 3) :: st) := v_get C (i := 10) (oX3 _ _ _) rfl (by decide) rfl inX3 hlk hd hn kk
theorem p_X3_meantCount (C : Cx x WX cc own nL rm ret) {v : Int32} (hlk : Cond.fieldLink own idx "LabyrinthGarden$Reader" "meantCount" "I" ∈ wsL_law0) (hd : decode cc pc = .ok (.putfield idx, 3)) (hn : pc + 3 = n) (e : S' = up S 3 10 v) (kk : V x WX nL Q S' n L st) : V x WX nL Q S pc L (.int v :: .ref (xq x 3) :: st) := by
  subst e
  exact v_put C (i := 10) (ty := .int) (oX3 _ _ _) rfl (by decide) (Nat.le_of_ble_eq_true rfl) inX3 tyX3 tyX3_ok nmX3 rfl (by decide +kernel) rfl rfl hlk hd hn (setX _ _ _ (by decide) rfl) kk
theorem oX0 (q : Nat → Nat) (ar : Ar) (S : St) : (WX q ar S)[6]? = some (q 6, .inr (0, [.int (rd S 6 0), .int (rd S 6 1), .int (rd S 6 2), .int (rd S 6 3), .int (rd S 6 4), .int (rd S 6 5), .int (rd S 6 6), .ref (q 7), .ref (q 8), .ref (q 9), .ref (q 10), .ref (q 11), .ref (q 12), .ref (q 13), .ref (q 14), .ref (q 15)])) := getX q ar S (by decide)
theorem g_X0_junctions (C : Cx x WX cc own nL rm ret) (hlk : Cond.fieldLink own idx "LabyrinthGarden$Garden" "junctions" "I" ∈ wsL_law0) (hd : decode cc pc = .ok (.getfield idx, 3)) (hn : pc + 3 = n) (kk : V x WX nL Q S n L (.int (rd S 6 0) :: st)) : V x WX nL Q S pc L (.ref (xq x 6) :: st) := v_get C (i := 0) (oX0 _ _ _) rfl (by decide) rfl inX0 hlk hd hn kk
theorem p_X0_junctions (C : Cx x WX cc own nL rm ret) {v : Int32} (hlk : Cond.fieldLink own idx "LabyrinthGarden$Garden" "junctions" "I" ∈ wsL_law0) (hd : decode cc pc = .ok (.putfield idx, 3)) (hn : pc + 3 = n) (e : S' = up S 6 0 v) (kk : V x WX nL Q S' n L st) : V x WX nL Q S pc L (.int v :: .ref (xq x 6) :: st) := by
  subst e
  exact v_put C (i := 0) (ty := .int) (oX0 _ _ _) rfl (by decide) (Nat.le_of_ble_eq_true rfl) inX0 tyX0 tyX0_ok nmX0 rfl (by decide +kernel) rfl rfl hlk hd hn (setX _ _ _ (by decide) rfl) kk
theorem g_X0_paths (C : Cx x WX cc own nL rm ret) (hlk : Cond.fieldLink own idx "LabyrinthGarden$Garden" "paths" "I" ∈ wsL_law0) (hd : decode cc pc = .ok (.getfield idx, 3)) (hn : pc + 3 = n) (kk : V x WX nL Q S n L (.int (rd S 6 1) :: st)) : V x WX nL Q S pc L (.ref (xq x 6) :: st) := v_get C (i := 1) (oX0 _ _ _) rfl (by decide) rfl inX0 hlk hd hn kk
theorem p_X0_paths (C : Cx x WX cc own nL rm ret) {v : Int32} (hlk : Cond.fieldLink own idx "LabyrinthGarden$Garden" "paths" "I" ∈ wsL_law0) (hd : decode cc pc = .ok (.putfield idx, 3)) (hn : pc + 3 = n) (e : S' = up S 6 1 v) (kk : V x WX nL Q S' n L st) : V x WX nL Q S pc L (.int v :: .ref (xq x 6) :: st) := by
  subst e
  exact v_put C (i := 1) (ty := .int) (oX0 _ _ _) rfl (by decide) (Nat.le_of_ble_eq_true rfl) inX0 tyX0 tyX0_ok nmX0 rfl (by decide +kernel) rfl rfl hlk hd hn (setX _ _ _ (by decide) rfl) kk
theorem g_X0_places (C : Cx x WX cc own nL rm ret) (hlk : Cond.fieldLink own idx "LabyrinthGarden$Garden" "places" "I" ∈ wsL_law0) (hd : decode cc pc = .ok (.getfield idx, 3)) (hn : pc + 3 = n) (kk : V x WX nL Q S n L (.int (rd S 6 2) :: st)) : V x WX nL Q S pc L (.ref (xq x 6) :: st) := v_get C (i := 2) (oX0 _ _ _) rfl (by decide) rfl inX0 hlk hd hn kk
theorem p_X0_places (C : Cx x WX cc own nL rm ret) {v : Int32} (hlk : Cond.fieldLink own idx "LabyrinthGarden$Garden" "places" "I" ∈ wsL_law0) (hd : decode cc pc = .ok (.putfield idx, 3)) (hn : pc + 3 = n) (e : S' = up S 6 2 v) (kk : V x WX nL Q S' n L st) : V x WX nL Q S pc L (.int v :: .ref (xq x 6) :: st) := by
  subst e
  exact v_put C (i := 2) (ty := .int) (oX0 _ _ _) rfl (by decide) (Nat.le_of_ble_eq_true rfl) inX0 tyX0 tyX0_ok nmX0 rfl (by decide +kernel) rfl rfl hlk hd hn (setX _ _ _ (by decide) rfl) kk
theorem g_X0_outs (C : Cx x WX cc own nL rm ret) (hlk : Cond.fieldLink own idx "LabyrinthGarden$Garden" "outs" "I" ∈ wsL_law0) (hd : decode cc pc = .ok (.getfield idx, 3)) (hn : pc + 3 = n) (kk : V x WX nL Q S n L (.int (rd S 6 3) :: st)) : V x WX nL Q S pc L (.ref (xq x 6) :: st) := v_get C (i := 3) (oX0 _ _ _) rfl (by decide) rfl inX0 hlk hd hn kk
theorem p_X0_outs (C : Cx x WX cc own nL rm ret) {v : Int32} (hlk : Cond.fieldLink own idx "LabyrinthGarden$Garden" "outs" "I" ∈ wsL_law0) (hd : decode cc pc = .ok (.putfield idx, 3)) (hn : pc + 3 = n) (e : S' = up S 6 3 v) (kk : V x WX nL Q S' n L st) : V x WX nL Q S pc L (.int v :: .ref (xq x 6) :: st) := by
  subst e
  exact v_put C (i := 3) (ty := .int) (oX0 _ _ _) rfl (by decide) (Nat.le_of_ble_eq_true rfl) inX0 tyX0 tyX0_ok nmX0 rfl (by decide +kernel) rfl rfl hlk hd hn (setX _ _ _ (by decide) rfl) kk
theorem g_X0_marks (C : Cx x WX cc own nL rm ret) (hlk : Cond.fieldLink own idx "LabyrinthGarden$Garden" "marks" "I" ∈ wsL_law0) (hd : decode cc pc = .ok (.getfield idx, 3)) (hn : pc + 3 = n) (kk : V x WX nL Q S n L (.int (rd S 6 4) :: st)) : V x WX nL Q S pc L (.ref (xq x 6) :: st) := v_get C (i := 4) (oX0 _ _ _) rfl (by decide) rfl inX0 hlk hd hn kk
theorem p_X0_marks (C : Cx x WX cc own nL rm ret) {v : Int32} (hlk : Cond.fieldLink own idx "LabyrinthGarden$Garden" "marks" "I" ∈ wsL_law0) (hd : decode cc pc = .ok (.putfield idx, 3)) (hn : pc + 3 = n) (e : S' = up S 6 4 v) (kk : V x WX nL Q S' n L st) : V x WX nL Q S pc L (.int v :: .ref (xq x 6) :: st) := by
  subst e
  exact v_put C (i := 4) (ty := .int) (oX0 _ _ _) rfl (by decide) (Nat.le_of_ble_eq_true rfl) inX0 tyX0 tyX0_ok nmX0 rfl (by decide +kernel) rfl rfl hlk hd hn (setX _ _ _ (by decide) rfl) kk
theorem g_X0_shuts (C : Cx x WX cc own nL rm ret) (hlk : Cond.fieldLink own idx "LabyrinthGarden$Garden" "shuts" "I" ∈ wsL_law0) (hd : decode cc pc = .ok (.getfield idx, 3)) (hn : pc + 3 = n) (kk : V x WX nL Q S n L (.int (rd S 6 5) :: st)) : V x WX nL Q S pc L (.ref (xq x 6) :: st) := v_get C (i := 5) (oX0 _ _ _) rfl (by decide) rfl inX0 hlk hd hn kk
theorem p_X0_shuts (C : Cx x WX cc own nL rm ret) {v : Int32} (hlk : Cond.fieldLink own idx "LabyrinthGarden$Garden" "shuts" "I" ∈ wsL_law0) (hd : decode cc pc = .ok (.putfield idx, 3)) (hn : pc + 3 = n) (e : S' = up S 6 5 v) (kk : V x WX nL Q S' n L st) : V x WX nL Q S pc L (.int v :: .ref (xq x 6) :: st) := by
  subst e
  exact v_put C (i := 5) (ty := .int) (oX0 _ _ _) rfl (by decide) (Nat.le_of_ble_eq_true rfl) inX0 tyX0 tyX0_ok nmX0 rfl (by decide +kernel) rfl rfl hlk hd hn (setX _ _ _ (by decide) rfl) kk
theorem g_X0_beats (C : Cx x WX cc own nL rm ret) (hlk : Cond.fieldLink own idx "LabyrinthGarden$Garden" "beats" "I" ∈ wsL_law0) (hd : decode cc pc = .ok (.getfield idx, 3)) (hn : pc + 3 = n) (kk : V x WX nL Q S n L (.int (rd S 6 6) :: st)) : V x WX nL Q S pc L (.ref (xq x 6) :: st) := v_get C (i := 6) (oX0 _ _ _) rfl (by decide) rfl inX0 hlk hd hn kk
theorem p_X0_beats (C : Cx x WX cc own nL rm ret) {v : Int32} (hlk : Cond.fieldLink own idx "LabyrinthGarden$Garden" "beats" "I" ∈ wsL_law0) (hd : decode cc pc = .ok (.putfield idx, 3)) (hn : pc + 3 = n) (e : S' = up S 6 6 v) (kk : V x WX nL Q S' n L st) : V x WX nL Q S pc L (.int v :: .ref (xq x 6) :: st) := by
  subst e
  exact v_put C (i := 6) (ty := .int) (oX0 _ _ _) rfl (by decide) (Nat.le_of_ble_eq_true rfl) inX0 tyX0 tyX0_ok nmX0 rfl (by decide +kernel) rfl rfl hlk hd hn (setX _ _ _ (by decide) rfl) kk
theorem g_X0_gates (C : Cx x WX cc own nL rm ret) (hlk : Cond.fieldLink own idx "LabyrinthGarden$Garden" "gates" "[I" ∈ wsL_law0) (hd : decode cc pc = .ok (.getfield idx, 3)) (hn : pc + 3 = n) (kk : V x WX nL Q S n L (.ref (xq x 7) :: st)) : V x WX nL Q S pc L (.ref (xq x 6) :: st) := v_get C (i := 7) (oX0 _ _ _) rfl (by decide) rfl inX0 hlk hd hn kk
theorem g_X0_endsOf (C : Cx x WX cc own nL rm ret) (hlk : Cond.fieldLink own idx "LabyrinthGarden$Garden" "endsOf" "[I" ∈ wsL_law0) (hd : decode cc pc = .ok (.getfield idx, 3)) (hn : pc + 3 = n) (kk : V x WX nL Q S n L (.ref (xq x 8) :: st)) : V x WX nL Q S pc L (.ref (xq x 6) :: st) := v_get C (i := 8) (oX0 _ _ _) rfl (by decide) rfl inX0 hlk hd hn kk
theorem g_X0_firstPlaceOf (C : Cx x WX cc own nL rm ret) (hlk : Cond.fieldLink own idx "LabyrinthGarden$Garden" "firstPlaceOf" "[I" ∈ wsL_law0) (hd : decode cc pc = .ok (.getfield idx, 3)) (hn : pc + 3 = n) (kk : V x WX nL Q S n L (.ref (xq x 9) :: st)) : V x WX nL Q S pc L (.ref (xq x 6) :: st) := v_get C (i := 9) (oX0 _ _ _) rfl (by decide) rfl inX0 hlk hd hn kk
theorem g_X0_junctionAt (C : Cx x WX cc own nL rm ret) (hlk : Cond.fieldLink own idx "LabyrinthGarden$Garden" "junctionAt" "[I" ∈ wsL_law0) (hd : decode cc pc = .ok (.getfield idx, 3)) (hn : pc + 3 = n) (kk : V x WX nL Q S n L (.ref (xq x 10) :: st)) : V x WX nL Q S pc L (.ref (xq x 6) :: st) := v_get C (i := 10) (oX0 _ _ _) rfl (by decide) rfl inX0 hlk hd hn kk
theorem g_X0_endAt (C : Cx x WX cc own nL rm ret) (hlk : Cond.fieldLink own idx "LabyrinthGarden$Garden" "endAt" "[I" ∈ wsL_law0) (hd : decode cc pc = .ok (.getfield idx, 3)) (hn : pc + 3 = n) (kk : V x WX nL Q S n L (.ref (xq x 11) :: st)) : V x WX nL Q S pc L (.ref (xq x 6) :: st) := v_get C (i := 11) (oX0 _ _ _) rfl (by decide) rfl inX0 hlk hd hn kk
theorem g_X0_pathAt (C : Cx x WX cc own nL rm ret) (hlk : Cond.fieldLink own idx "LabyrinthGarden$Garden" "pathAt" "[I" ∈ wsL_law0) (hd : decode cc pc = .ok (.getfield idx, 3)) (hn : pc + 3 = n) (kk : V x WX nL Q S n L (.ref (xq x 12) :: st)) : V x WX nL Q S pc L (.ref (xq x 6) :: st) := v_get C (i := 12) (oX0 _ _ _) rfl (by decide) rfl inX0 hlk hd hn kk
theorem g_X0_otherOf (C : Cx x WX cc own nL rm ret) (hlk : Cond.fieldLink own idx "LabyrinthGarden$Garden" "otherOf" "[I" ∈ wsL_law0) (hd : decode cc pc = .ok (.getfield idx, 3)) (hn : pc + 3 = n) (kk : V x WX nL Q S n L (.ref (xq x 13) :: st)) : V x WX nL Q S pc L (.ref (xq x 6) :: st) := v_get C (i := 13) (oX0 _ _ _) rfl (by decide) rfl inX0 hlk hd hn kk
theorem g_X0_rings (C : Cx x WX cc own nL rm ret) (hlk : Cond.fieldLink own idx "LabyrinthGarden$Garden" "rings" "[I" ∈ wsL_law0) (hd : decode cc pc = .ok (.getfield idx, 3)) (hn : pc + 3 = n) (kk : V x WX nL Q S n L (.ref (xq x 14) :: st)) : V x WX nL Q S pc L (.ref (xq x 6) :: st) := v_get C (i := 14) (oX0 _ _ _) rfl (by decide) rfl inX0 hlk hd hn kk
theorem g_X0_placeOfSide (C : Cx x WX cc own nL rm ret) (hlk : Cond.fieldLink own idx "LabyrinthGarden$Garden" "placeOfSide" "[I" ∈ wsL_law0) (hd : decode cc pc = .ok (.getfield idx, 3)) (hn : pc + 3 = n) (kk : V x WX nL Q S n L (.ref (xq x 15) :: st)) : V x WX nL Q S pc L (.ref (xq x 6) :: st) := v_get C (i := 15) (oX0 _ _ _) rfl (by decide) rfl inX0 hlk hd hn kk
theorem oX5 {r : Nat} (hr : r = 16 ∨ r = 20) (q : Nat → Nat) (ar : Ar) (S : St) : (WX q ar S)[r]? = some (q r, .inr (5, [.ref (q (r + 1)), .ref (q (r + 2)), .ref (q (r + 3)), .int (rd S r 3), .int (rd S r 4), .int (rd S r 5), .int (rd S r 6)])) := by rcases hr with rfl | rfl; exact getX q ar S (by decide); exact getX q ar S (by decide)
theorem g_X5_number {r : Nat} (hr : r = 16 ∨ r = 20) (C : Cx x WX cc own nL rm ret) (hlk : Cond.fieldLink own idx "LabyrinthGarden$Rules" "number" "[I" ∈ wsL_law0) (hd : decode cc pc = .ok (.getfield idx, 3)) (hn : pc + 3 = n) (kk : V x WX nL Q S n L (.ref (xq x (r + 1)) :: st)) : V x WX nL Q S pc L (.ref (xq x r) :: st) := v_get C (i := 0) (oX5 hr _ _ _) rfl (by decide) rfl inX5 hlk hd hn kk
theorem g_X5_deed {r : Nat} (hr : r = 16 ∨ r = 20) (C : Cx x WX cc own nL rm ret) (hlk : Cond.fieldLink own idx "LabyrinthGarden$Rules" "deed" "[I" ∈ wsL_law0) (hd : decode cc pc = .ok (.getfield idx, 3)) (hn : pc + 3 = n) (kk : V x WX nL Q S n L (.ref (xq x (r + 2)) :: st)) : V x WX nL Q S pc L (.ref (xq x r) :: st) := v_get C (i := 1) (oX5 hr _ _ _) rfl (by decide) rfl inX5 hlk hd hn kk
theorem g_X5_next {r : Nat} (hr : r = 16 ∨ r = 20) (C : Cx x WX cc own nL rm ret) (hlk : Cond.fieldLink own idx "LabyrinthGarden$Rules" "next" "[I" ∈ wsL_law0) (hd : decode cc pc = .ok (.getfield idx, 3)) (hn : pc + 3 = n) (kk : V x WX nL Q S n L (.ref (xq x (r + 3)) :: st)) : V x WX nL Q S pc L (.ref (xq x r) :: st) := v_get C (i := 2) (oX5 hr _ _ _) rfl (by decide) rfl inX5 hlk hd hn kk
theorem g_X5_lines {r : Nat} (hr : r = 16 ∨ r = 20) (C : Cx x WX cc own nL rm ret) (hlk : Cond.fieldLink own idx "LabyrinthGarden$Rules" "lines" "I" ∈ wsL_law0) (hd : decode cc pc = .ok (.getfield idx, 3)) (hn : pc + 3 = n) (kk : V x WX nL Q S n L (.int (rd S r 3) :: st)) : V x WX nL Q S pc L (.ref (xq x r) :: st) := v_get C (i := 3) (oX5 hr _ _ _) rfl (by decide) rfl inX5 hlk hd hn kk
theorem p_X5_lines {r : Nat} (hr : r = 16 ∨ r = 20) (C : Cx x WX cc own nL rm ret) {v : Int32} (hlk : Cond.fieldLink own idx "LabyrinthGarden$Rules" "lines" "I" ∈ wsL_law0) (hd : decode cc pc = .ok (.putfield idx, 3)) (hn : pc + 3 = n) (e : S' = up S r 3 v) (kk : V x WX nL Q S' n L st) : V x WX nL Q S pc L (.int v :: .ref (xq x r) :: st) := by
  subst e
  exact v_put C (i := 3) (ty := .int) (oX5 hr _ _ _) rfl (by decide) (Nat.le_of_ble_eq_true rfl) inX5 tyX5 tyX5_ok nmX5 rfl (by decide +kernel) rfl rfl hlk hd hn (by rcases hr with rfl | rfl; exact setX _ _ _ (by decide) rfl; exact setX _ _ _ (by decide) rfl) kk
theorem g_X5_firstState {r : Nat} (hr : r = 16 ∨ r = 20) (C : Cx x WX cc own nL rm ret) (hlk : Cond.fieldLink own idx "LabyrinthGarden$Rules" "firstState" "I" ∈ wsL_law0) (hd : decode cc pc = .ok (.getfield idx, 3)) (hn : pc + 3 = n) (kk : V x WX nL Q S n L (.int (rd S r 4) :: st)) : V x WX nL Q S pc L (.ref (xq x r) :: st) := v_get C (i := 4) (oX5 hr _ _ _) rfl (by decide) rfl inX5 hlk hd hn kk
theorem p_X5_firstState {r : Nat} (hr : r = 16 ∨ r = 20) (C : Cx x WX cc own nL rm ret) {v : Int32} (hlk : Cond.fieldLink own idx "LabyrinthGarden$Rules" "firstState" "I" ∈ wsL_law0) (hd : decode cc pc = .ok (.putfield idx, 3)) (hn : pc + 3 = n) (e : S' = up S r 4 v) (kk : V x WX nL Q S' n L st) : V x WX nL Q S pc L (.int v :: .ref (xq x r) :: st) := by
  subst e
  exact v_put C (i := 4) (ty := .int) (oX5 hr _ _ _) rfl (by decide) (Nat.le_of_ble_eq_true rfl) inX5 tyX5 tyX5_ok nmX5 rfl (by decide +kernel) rfl rfl hlk hd hn (by rcases hr with rfl | rfl; exact setX _ _ _ (by decide) rfl; exact setX _ _ _ (by decide) rfl) kk
theorem g_X5_told {r : Nat} (hr : r = 16 ∨ r = 20) (C : Cx x WX cc own nL rm ret) (hlk : Cond.fieldLink own idx "LabyrinthGarden$Rules" "told" "I" ∈ wsL_law0) (hd : decode cc pc = .ok (.getfield idx, 3)) (hn : pc + 3 = n) (kk : V x WX nL Q S n L (.int (rd S r 5) :: st)) : V x WX nL Q S pc L (.ref (xq x r) :: st) := v_get C (i := 5) (oX5 hr _ _ _) rfl (by decide) rfl inX5 hlk hd hn kk
theorem p_X5_told {r : Nat} (hr : r = 16 ∨ r = 20) (C : Cx x WX cc own nL rm ret) {v : Int32} (hlk : Cond.fieldLink own idx "LabyrinthGarden$Rules" "told" "I" ∈ wsL_law0) (hd : decode cc pc = .ok (.putfield idx, 3)) (hn : pc + 3 = n) (e : S' = up S r 5 v) (kk : V x WX nL Q S' n L st) : V x WX nL Q S pc L (.int v :: .ref (xq x r) :: st) := by
  subst e
  exact v_put C (i := 5) (ty := .int) (oX5 hr _ _ _) rfl (by decide) (Nat.le_of_ble_eq_true rfl) inX5 tyX5 tyX5_ok nmX5 rfl (by decide +kernel) rfl rfl hlk hd hn (by rcases hr with rfl | rfl; exact setX _ _ _ (by decide) rfl; exact setX _ _ _ (by decide) rfl) kk
theorem g_X5_forked {r : Nat} (hr : r = 16 ∨ r = 20) (C : Cx x WX cc own nL rm ret) (hlk : Cond.fieldLink own idx "LabyrinthGarden$Rules" "forked" "I" ∈ wsL_law0) (hd : decode cc pc = .ok (.getfield idx, 3)) (hn : pc + 3 = n) (kk : V x WX nL Q S n L (.int (rd S r 6) :: st)) : V x WX nL Q S pc L (.ref (xq x r) :: st) := v_get C (i := 6) (oX5 hr _ _ _) rfl (by decide) rfl inX5 hlk hd hn kk
theorem p_X5_forked {r : Nat} (hr : r = 16 ∨ r = 20) (C : Cx x WX cc own nL rm ret) {v : Int32} (hlk : Cond.fieldLink own idx "LabyrinthGarden$Rules" "forked" "I" ∈ wsL_law0) (hd : decode cc pc = .ok (.putfield idx, 3)) (hn : pc + 3 = n) (e : S' = up S r 6 v) (kk : V x WX nL Q S' n L st) : V x WX nL Q S pc L (.int v :: .ref (xq x r) :: st) := by
  subst e
  exact v_put C (i := 6) (ty := .int) (oX5 hr _ _ _) rfl (by decide) (Nat.le_of_ble_eq_true rfl) inX5 tyX5 tyX5_ok nmX5 rfl (by decide +kernel) rfl rfl hlk hd hn (by rcases hr with rfl | rfl; exact setX _ _ _ (by decide) rfl; exact setX _ _ _ (by decide) rfl) kk
theorem oX8 (q : Nat → Nat) (ar : Ar) (S : St) : (WX q ar S)[24]? = some (q 24, .inr (8, [.ref (q 25), .int (rd S 24 1), .ref (q 6), .ref (q 26), .ref (q (rs (rd S 24 4)))])) := getX q ar S (by decide)
theorem g_X8_history (C : Cx x WX cc own nL rm ret) (hlk : Cond.fieldLink own idx "LabyrinthGarden$Walker" "history" "[I" ∈ wsL_law0) (hd : decode cc pc = .ok (.getfield idx, 3)) (hn : pc + 3 = n) (kk : V x WX nL Q S n L (.ref (xq x 25) :: st)) : V x WX nL Q S pc L (.ref (xq x 24) :: st) := v_get C (i := 0) (oX8 _ _ _) rfl (by decide) rfl inX8 hlk hd hn kk
theorem g_X8_last (C : Cx x WX cc own nL rm ret) (hlk : Cond.fieldLink own idx "LabyrinthGarden$Walker" "last" "I" ∈ wsL_law0) (hd : decode cc pc = .ok (.getfield idx, 3)) (hn : pc + 3 = n) (kk : V x WX nL Q S n L (.int (rd S 24 1) :: st)) : V x WX nL Q S pc L (.ref (xq x 24) :: st) := v_get C (i := 1) (oX8 _ _ _) rfl (by decide) rfl inX8 hlk hd hn kk
theorem p_X8_last (C : Cx x WX cc own nL rm ret) {v : Int32} (hlk : Cond.fieldLink own idx "LabyrinthGarden$Walker" "last" "I" ∈ wsL_law0) (hd : decode cc pc = .ok (.putfield idx, 3)) (hn : pc + 3 = n) (e : S' = up S 24 1 v) (kk : V x WX nL Q S' n L st) : V x WX nL Q S pc L (.int v :: .ref (xq x 24) :: st) := by
  subst e
  exact v_put C (i := 1) (ty := .int) (oX8 _ _ _) rfl (by decide) (Nat.le_of_ble_eq_true rfl) inX8 tyX8 tyX8_ok nmX8 rfl (by decide +kernel) rfl rfl hlk hd hn (setX _ _ _ (by decide) rfl) kk
theorem g_X8_garden (C : Cx x WX cc own nL rm ret) (hlk : Cond.fieldLink own idx "LabyrinthGarden$Walker" "garden" "LLabyrinthGarden$Garden;" ∈ wsL_law0) (hd : decode cc pc = .ok (.getfield idx, 3)) (hn : pc + 3 = n) (kk : V x WX nL Q S n L (.ref (xq x 6) :: st)) : V x WX nL Q S pc L (.ref (xq x 24) :: st) := v_get C (i := 2) (oX8 _ _ _) rfl (by decide) rfl inX8 hlk hd hn kk
theorem g_X8_openAt (C : Cx x WX cc own nL rm ret) (hlk : Cond.fieldLink own idx "LabyrinthGarden$Walker" "openAt" "[I" ∈ wsL_law0) (hd : decode cc pc = .ok (.getfield idx, 3)) (hn : pc + 3 = n) (kk : V x WX nL Q S n L (.ref (xq x 26) :: st)) : V x WX nL Q S pc L (.ref (xq x 24) :: st) := v_get C (i := 3) (oX8 _ _ _) rfl (by decide) rfl inX8 hlk hd hn kk
theorem g_X8_rules (C : Cx x WX cc own nL rm ret) (hlk : Cond.fieldLink own idx "LabyrinthGarden$Walker" "rules" "LLabyrinthGarden$Rules;" ∈ wsL_law0) (hd : decode cc pc = .ok (.getfield idx, 3)) (hn : pc + 3 = n) (kk : V x WX nL Q S n L (.ref (xq x (rs (rd S 24 4))) :: st)) : V x WX nL Q S pc L (.ref (xq x 24) :: st) := v_get C (i := 4) (oX8 _ _ _) rfl (by decide) rfl inX8 hlk hd hn kk
theorem p_X8_rules {r : Nat} (hr : r = 16 ∨ r = 20) (C : Cx x WX cc own nL rm ret) (hlk : Cond.fieldLink own idx "LabyrinthGarden$Walker" "rules" "LLabyrinthGarden$Rules;" ∈ wsL_law0) (hd : decode cc pc = .ok (.putfield idx, 3)) (hn : pc + 3 = n) (e : S' = up S 24 4 (sr r)) (kk : V x WX nL Q S' n L st) : V x WX nL Q S pc L (.ref (xq x r) :: .ref (xq x 24) :: st) := by
  subst e
  exact v_put C (i := 4) (ty := .object "LabyrinthGarden$Rules") (oX8 _ _ _) rfl (by decide) (Nat.le_of_ble_eq_true rfl) inX8 tyX8 tyX8_ok nmX8 rfl (by decide +kernel) rfl rfl hlk hd hn (setX _ _ _ (by decide) (by rcases hr with rfl | rfl <;> rfl)) kk
theorem oX4 (q : Nat → Nat) (ar : Ar) (S : St) : (WX q ar S)[27]? = some (q 27, .inr (4, [.ref (q 28)])) := getX q ar S (by decide)
theorem g_X4_rows (C : Cx x WX cc own nL rm ret) (hlk : Cond.fieldLink own idx "LabyrinthGarden$Report" "rows" "[I" ∈ wsL_law0) (hd : decode cc pc = .ok (.getfield idx, 3)) (hn : pc + 3 = n) (kk : V x WX nL Q S n L (.ref (xq x 28) :: st)) : V x WX nL Q S pc L (.ref (xq x 27) :: st) := v_get C (i := 0) (oX4 _ _ _) rfl (by decide) rfl inX4 hlk hd hn kk
theorem oX1 (q : Nat → Nat) (ar : Ar) (S : St) : (WX q ar S)[29]? = some (q 29, .inr (1, [.ref (q 30), .int (rd S 29 1), .ref (q 6), .ref (q 24), .int (rd S 29 4)])) := getX q ar S (by decide)
theorem g_X1_kept (C : Cx x WX cc own nL rm ret) (hlk : Cond.fieldLink own idx "LabyrinthGarden$Helper" "kept" "[I" ∈ wsL_law0) (hd : decode cc pc = .ok (.getfield idx, 3)) (hn : pc + 3 = n) (kk : V x WX nL Q S n L (.ref (xq x 30) :: st)) : V x WX nL Q S pc L (.ref (xq x 29) :: st) := v_get C (i := 0) (oX1 _ _ _) rfl (by decide) rfl inX1 hlk hd hn kk
theorem g_X1_keptCount (C : Cx x WX cc own nL rm ret) (hlk : Cond.fieldLink own idx "LabyrinthGarden$Helper" "keptCount" "I" ∈ wsL_law0) (hd : decode cc pc = .ok (.getfield idx, 3)) (hn : pc + 3 = n) (kk : V x WX nL Q S n L (.int (rd S 29 1) :: st)) : V x WX nL Q S pc L (.ref (xq x 29) :: st) := v_get C (i := 1) (oX1 _ _ _) rfl (by decide) rfl inX1 hlk hd hn kk
theorem p_X1_keptCount (C : Cx x WX cc own nL rm ret) {v : Int32} (hlk : Cond.fieldLink own idx "LabyrinthGarden$Helper" "keptCount" "I" ∈ wsL_law0) (hd : decode cc pc = .ok (.putfield idx, 3)) (hn : pc + 3 = n) (e : S' = up S 29 1 v) (kk : V x WX nL Q S' n L st) : V x WX nL Q S pc L (.int v :: .ref (xq x 29) :: st) := by
  subst e
  exact v_put C (i := 1) (ty := .int) (oX1 _ _ _) rfl (by decide) (Nat.le_of_ble_eq_true rfl) inX1 tyX1 tyX1_ok nmX1 rfl (by decide +kernel) rfl rfl hlk hd hn (setX _ _ _ (by decide) rfl) kk
theorem g_X1_garden (C : Cx x WX cc own nL rm ret) (hlk : Cond.fieldLink own idx "LabyrinthGarden$Helper" "garden" "LLabyrinthGarden$Garden;" ∈ wsL_law0) (hd : decode cc pc = .ok (.getfield idx, 3)) (hn : pc + 3 = n) (kk : V x WX nL Q S n L (.ref (xq x 6) :: st)) : V x WX nL Q S pc L (.ref (xq x 29) :: st) := v_get C (i := 2) (oX1 _ _ _) rfl (by decide) rfl inX1 hlk hd hn kk
theorem g_X1_walker (C : Cx x WX cc own nL rm ret) (hlk : Cond.fieldLink own idx "LabyrinthGarden$Helper" "walker" "LLabyrinthGarden$Walker;" ∈ wsL_law0) (hd : decode cc pc = .ok (.getfield idx, 3)) (hn : pc + 3 = n) (kk : V x WX nL Q S n L (.ref (xq x 24) :: st)) : V x WX nL Q S pc L (.ref (xq x 29) :: st) := v_get C (i := 3) (oX1 _ _ _) rfl (by decide) rfl inX1 hlk hd hn kk
theorem g_X1_lostLately (C : Cx x WX cc own nL rm ret) (hlk : Cond.fieldLink own idx "LabyrinthGarden$Helper" "lostLately" "I" ∈ wsL_law0) (hd : decode cc pc = .ok (.getfield idx, 3)) (hn : pc + 3 = n) (kk : V x WX nL Q S n L (.int (rd S 29 4) :: st)) : V x WX nL Q S pc L (.ref (xq x 29) :: st) := v_get C (i := 4) (oX1 _ _ _) rfl (by decide) rfl inX1 hlk hd hn kk
theorem p_X1_lostLately (C : Cx x WX cc own nL rm ret) {v : Int32} (hlk : Cond.fieldLink own idx "LabyrinthGarden$Helper" "lostLately" "I" ∈ wsL_law0) (hd : decode cc pc = .ok (.putfield idx, 3)) (hn : pc + 3 = n) (e : S' = up S 29 4 v) (kk : V x WX nL Q S' n L st) : V x WX nL Q S pc L (.int v :: .ref (xq x 29) :: st) := by
  subst e
  exact v_put C (i := 4) (ty := .int) (oX1 _ _ _) rfl (by decide) (Nat.le_of_ble_eq_true rfl) inX1 tyX1 tyX1_ok nmX1 rfl (by decide +kernel) rfl rfl hlk hd hn (setX _ _ _ (by decide) rfl) kk
theorem oX6 (q : Nat → Nat) (ar : Ar) (S : St) : (WX q ar S)[31]? = some (q 31, .inr (6, [.int (rd S 31 0), .int (rd S 31 1), .ref (q 6)])) := getX q ar S (by decide)
theorem g_X6_here (C : Cx x WX cc own nL rm ret) (hlk : Cond.fieldLink own idx "LabyrinthGarden$Tale" "here" "I" ∈ wsL_law0) (hd : decode cc pc = .ok (.getfield idx, 3)) (hn : pc + 3 = n) (kk : V x WX nL Q S n L (.int (rd S 31 0) :: st)) : V x WX nL Q S pc L (.ref (xq x 31) :: st) := v_get C (i := 0) (oX6 _ _ _) rfl (by decide) rfl inX6 hlk hd hn kk
theorem p_X6_here (C : Cx x WX cc own nL rm ret) {v : Int32} (hlk : Cond.fieldLink own idx "LabyrinthGarden$Tale" "here" "I" ∈ wsL_law0) (hd : decode cc pc = .ok (.putfield idx, 3)) (hn : pc + 3 = n) (e : S' = up S 31 0 v) (kk : V x WX nL Q S' n L st) : V x WX nL Q S pc L (.int v :: .ref (xq x 31) :: st) := by
  subst e
  exact v_put C (i := 0) (ty := .int) (oX6 _ _ _) rfl (by decide) (Nat.le_of_ble_eq_true rfl) inX6 tyX6 tyX6_ok nmX6 rfl (by decide +kernel) rfl rfl hlk hd hn (setX _ _ _ (by decide) rfl) kk
theorem g_X6_turns (C : Cx x WX cc own nL rm ret) (hlk : Cond.fieldLink own idx "LabyrinthGarden$Tale" "turns" "I" ∈ wsL_law0) (hd : decode cc pc = .ok (.getfield idx, 3)) (hn : pc + 3 = n) (kk : V x WX nL Q S n L (.int (rd S 31 1) :: st)) : V x WX nL Q S pc L (.ref (xq x 31) :: st) := v_get C (i := 1) (oX6 _ _ _) rfl (by decide) rfl inX6 hlk hd hn kk
theorem p_X6_turns (C : Cx x WX cc own nL rm ret) {v : Int32} (hlk : Cond.fieldLink own idx "LabyrinthGarden$Tale" "turns" "I" ∈ wsL_law0) (hd : decode cc pc = .ok (.putfield idx, 3)) (hn : pc + 3 = n) (e : S' = up S 31 1 v) (kk : V x WX nL Q S' n L st) : V x WX nL Q S pc L (.int v :: .ref (xq x 31) :: st) := by
  subst e
  exact v_put C (i := 1) (ty := .int) (oX6 _ _ _) rfl (by decide) (Nat.le_of_ble_eq_true rfl) inX6 tyX6 tyX6_ok nmX6 rfl (by decide +kernel) rfl rfl hlk hd hn (setX _ _ _ (by decide) rfl) kk
theorem g_X6_garden (C : Cx x WX cc own nL rm ret) (hlk : Cond.fieldLink own idx "LabyrinthGarden$Tale" "garden" "LLabyrinthGarden$Garden;" ∈ wsL_law0) (hd : decode cc pc = .ok (.getfield idx, 3)) (hn : pc + 3 = n) (kk : V x WX nL Q S n L (.ref (xq x 6) :: st)) : V x WX nL Q S pc L (.ref (xq x 31) :: st) := v_get C (i := 2) (oX6 _ _ _) rfl (by decide) rfl inX6 hlk hd hn kk
theorem oX2 (q : Nat → Nat) (ar : Ar) (S : St) : (WX q ar S)[32]? = some (q 32, .inr (2, [.ref (q 33), .int (rd S 32 1), .ref (q 6), .int (rd S 32 3), .ref (q 34), .ref (q 35), .ref (q 36), .ref (q 37), .ref (q 38), .ref (q 39), .ref (q 40)])) := getX q ar S (by decide)
theorem g_X2_kept (C : Cx x WX cc own nL rm ret) (hlk : Cond.fieldLink own idx "LabyrinthGarden$Homer" "kept" "[I" ∈ wsL_law0) (hd : decode cc pc = .ok (.getfield idx, 3)) (hn : pc + 3 = n) (kk : V x WX nL Q S n L (.ref (xq x 33) :: st)) : V x WX nL Q S pc L (.ref (xq x 32) :: st) := v_get C (i := 0) (oX2 _ _ _) rfl (by decide) rfl inX2 hlk hd hn kk
theorem g_X2_keptCount (C : Cx x WX cc own nL rm ret) (hlk : Cond.fieldLink own idx "LabyrinthGarden$Homer" "keptCount" "I" ∈ wsL_law0) (hd : decode cc pc = .ok (.getfield idx, 3)) (hn : pc + 3 = n) (kk : V x WX nL Q S n L (.int (rd S 32 1) :: st)) : V x WX nL Q S pc L (.ref (xq x 32) :: st) := v_get C (i := 1) (oX2 _ _ _) rfl (by decide) rfl inX2 hlk hd hn kk
theorem p_X2_keptCount (C : Cx x WX cc own nL rm ret) {v : Int32} (hlk : Cond.fieldLink own idx "LabyrinthGarden$Homer" "keptCount" "I" ∈ wsL_law0) (hd : decode cc pc = .ok (.putfield idx, 3)) (hn : pc + 3 = n) (e : S' = up S 32 1 v) (kk : V x WX nL Q S' n L st) : V x WX nL Q S pc L (.int v :: .ref (xq x 32) :: st) := by
  subst e
  exact v_put C (i := 1) (ty := .int) (oX2 _ _ _) rfl (by decide) (Nat.le_of_ble_eq_true rfl) inX2 tyX2 tyX2_ok nmX2 rfl (by decide +kernel) rfl rfl hlk hd hn (setX _ _ _ (by decide) rfl) kk
theorem g_X2_garden (C : Cx x WX cc own nL rm ret) (hlk : Cond.fieldLink own idx "LabyrinthGarden$Homer" "garden" "LLabyrinthGarden$Garden;" ∈ wsL_law0) (hd : decode cc pc = .ok (.getfield idx, 3)) (hn : pc + 3 = n) (kk : V x WX nL Q S n L (.ref (xq x 6) :: st)) : V x WX nL Q S pc L (.ref (xq x 32) :: st) := v_get C (i := 2) (oX2 _ _ _) rfl (by decide) rfl inX2 hlk hd hn kk
theorem g_X2_turnsToTry (C : Cx x WX cc own nL rm ret) (hlk : Cond.fieldLink own idx "LabyrinthGarden$Homer" "turnsToTry" "I" ∈ wsL_law0) (hd : decode cc pc = .ok (.getfield idx, 3)) (hn : pc + 3 = n) (kk : V x WX nL Q S n L (.int (rd S 32 3) :: st)) : V x WX nL Q S pc L (.ref (xq x 32) :: st) := v_get C (i := 3) (oX2 _ _ _) rfl (by decide) rfl inX2 hlk hd hn kk
theorem p_X2_turnsToTry (C : Cx x WX cc own nL rm ret) {v : Int32} (hlk : Cond.fieldLink own idx "LabyrinthGarden$Homer" "turnsToTry" "I" ∈ wsL_law0) (hd : decode cc pc = .ok (.putfield idx, 3)) (hn : pc + 3 = n) (e : S' = up S 32 3 v) (kk : V x WX nL Q S' n L st) : V x WX nL Q S pc L (.int v :: .ref (xq x 32) :: st) := by
  subst e
  exact v_put C (i := 3) (ty := .int) (oX2 _ _ _) rfl (by decide) (Nat.le_of_ble_eq_true rfl) inX2 tyX2 tyX2_ok nmX2 rfl (by decide +kernel) rfl rfl hlk hd hn (setX _ _ _ (by decide) rfl) kk
theorem g_X2_beyond (C : Cx x WX cc own nL rm ret) (hlk : Cond.fieldLink own idx "LabyrinthGarden$Homer" "beyond" "[I" ∈ wsL_law0) (hd : decode cc pc = .ok (.getfield idx, 3)) (hn : pc + 3 = n) (kk : V x WX nL Q S n L (.ref (xq x 34) :: st)) : V x WX nL Q S pc L (.ref (xq x 32) :: st) := v_get C (i := 4) (oX2 _ _ _) rfl (by decide) rfl inX2 hlk hd hn kk
theorem g_X2_turns (C : Cx x WX cc own nL rm ret) (hlk : Cond.fieldLink own idx "LabyrinthGarden$Homer" "turns" "[I" ∈ wsL_law0) (hd : decode cc pc = .ok (.getfield idx, 3)) (hn : pc + 3 = n) (kk : V x WX nL Q S n L (.ref (xq x 35) :: st)) : V x WX nL Q S pc L (.ref (xq x 32) :: st) := v_get C (i := 5) (oX2 _ _ _) rfl (by decide) rfl inX2 hlk hd hn kk
theorem g_X2_twins (C : Cx x WX cc own nL rm ret) (hlk : Cond.fieldLink own idx "LabyrinthGarden$Homer" "twins" "[I" ∈ wsL_law0) (hd : decode cc pc = .ok (.getfield idx, 3)) (hn : pc + 3 = n) (kk : V x WX nL Q S n L (.ref (xq x 36) :: st)) : V x WX nL Q S pc L (.ref (xq x 32) :: st) := v_get C (i := 6) (oX2 _ _ _) rfl (by decide) rfl inX2 hlk hd hn kk
theorem g_X2_at (C : Cx x WX cc own nL rm ret) (hlk : Cond.fieldLink own idx "LabyrinthGarden$Homer" "at" "[I" ∈ wsL_law0) (hd : decode cc pc = .ok (.getfield idx, 3)) (hn : pc + 3 = n) (kk : V x WX nL Q S n L (.ref (xq x 37) :: st)) : V x WX nL Q S pc L (.ref (xq x 32) :: st) := v_get C (i := 7) (oX2 _ _ _) rfl (by decide) rfl inX2 hlk hd hn kk
theorem g_X2_alike (C : Cx x WX cc own nL rm ret) (hlk : Cond.fieldLink own idx "LabyrinthGarden$Homer" "alike" "[I" ∈ wsL_law0) (hd : decode cc pc = .ok (.getfield idx, 3)) (hn : pc + 3 = n) (kk : V x WX nL Q S n L (.ref (xq x 38) :: st)) : V x WX nL Q S pc L (.ref (xq x 32) :: st) := v_get C (i := 8) (oX2 _ _ _) rfl (by decide) rfl inX2 hlk hd hn kk
theorem g_X2_unsure (C : Cx x WX cc own nL rm ret) (hlk : Cond.fieldLink own idx "LabyrinthGarden$Homer" "unsure" "[I" ∈ wsL_law0) (hd : decode cc pc = .ok (.getfield idx, 3)) (hn : pc + 3 = n) (kk : V x WX nL Q S n L (.ref (xq x 39) :: st)) : V x WX nL Q S pc L (.ref (xq x 32) :: st) := v_get C (i := 9) (oX2 _ _ _) rfl (by decide) rfl inX2 hlk hd hn kk
theorem g_X2_seen (C : Cx x WX cc own nL rm ret) (hlk : Cond.fieldLink own idx "LabyrinthGarden$Homer" "seen" "[I" ∈ wsL_law0) (hd : decode cc pc = .ok (.getfield idx, 3)) (hn : pc + 3 = n) (kk : V x WX nL Q S n L (.ref (xq x 40) :: st)) : V x WX nL Q S pc L (.ref (xq x 32) :: st) := v_get C (i := 10) (oX2 _ _ _) rfl (by decide) rfl inX2 hlk hd hn kk
theorem oX10 (q : Nat → Nat) (ar : Ar) (S : St) : (WM q ar S)[0]? = some (q 0, .inr (10, [.ref (q 1), .int (rd S 0 1), .int (rd S 0 2), .int (rd S 0 3), .int (rd S 0 4), .int (rd S 0 5), .int (rd S 0 6), .ref (q 2), .int (rd S 0 8), .ref (q 3), .ref (q 4), .int (rd S 0 11), .ref (q 5), .ref (q 6), .ref (q 7), .int (rd S 0 15), .int (rd S 0 16), .ref (q 8), .ref (q 9), .ref (q 10), .ref (q 11), .ref (q 12), .ref (q 13), .int (rd S 0 23), .int (rd S 0 24), .int (rd S 0 25), .int (rd S 0 26), .int (rd S 0 27), .int (rd S 0 28), .ref (q 14), .ref (q 15), .ref (q 16), .int (rd S 0 32), .int (rd S 0 33), .ref (q 17), .ref (q 18), .ref (q 19), .int (rd S 0 37), .int (rd S 0 38), .int (rd S 0 39), .int (rd S 0 40), .int (rd S 0 41), .int (rd S 0 42), .int (rd S 0 43), .ref (q 20), .int (rd S 0 45), .ref (q 21), .ref (q 22), .int (rd S 0 48), .long (rdL S), .int (rd S 0 50), .ref (q 23), .ref (q 24), .ref (q 25), .ref (q 26)])) := getM q ar S (by decide)
theorem g_X10_tape (C : Cx x WM cc own nL rm ret) (hlk : Cond.fieldLink own idx "LabyrinthGardenModel" "tape" "[I" ∈ wsL_law0) (hd : decode cc pc = .ok (.getfield idx, 3)) (hn : pc + 3 = n) (kk : V x WM nL Q S n L (.ref (xq x 1) :: st)) : V x WM nL Q S pc L (.ref (xq x 0) :: st) := v_get C (i := 0) (oX10 _ _ _) rfl (by decide) rfl inX10 hlk hd hn kk
theorem g_X10_tapeSize (C : Cx x WM cc own nL rm ret) (hlk : Cond.fieldLink own idx "LabyrinthGardenModel" "tapeSize" "I" ∈ wsL_law0) (hd : decode cc pc = .ok (.getfield idx, 3)) (hn : pc + 3 = n) (kk : V x WM nL Q S n L (.int (rd S 0 1) :: st)) : V x WM nL Q S pc L (.ref (xq x 0) :: st) := v_get C (i := 1) (oX10 _ _ _) rfl (by decide) rfl inX10 hlk hd hn kk
theorem p_X10_tapeSize (C : Cx x WM cc own nL rm ret) {v : Int32} (hlk : Cond.fieldLink own idx "LabyrinthGardenModel" "tapeSize" "I" ∈ wsL_law0) (hd : decode cc pc = .ok (.putfield idx, 3)) (hn : pc + 3 = n) (e : S' = up S 0 1 v) (kk : V x WM nL Q S' n L st) : V x WM nL Q S pc L (.int v :: .ref (xq x 0) :: st) := by
  subst e
  exact v_put C (i := 1) (ty := .int) (oX10 _ _ _) rfl (by decide) (Nat.le_of_ble_eq_true rfl) inX10 tyX10 tyX10_ok nmX10 rfl (by decide +kernel) rfl rfl hlk hd hn (setM _ _ _ (by decide) rfl) kk
theorem g_X10_thrown (C : Cx x WM cc own nL rm ret) (hlk : Cond.fieldLink own idx "LabyrinthGardenModel" "thrown" "I" ∈ wsL_law0) (hd : decode cc pc = .ok (.getfield idx, 3)) (hn : pc + 3 = n) (kk : V x WM nL Q S n L (.int (rd S 0 2) :: st)) : V x WM nL Q S pc L (.ref (xq x 0) :: st) := v_get C (i := 2) (oX10 _ _ _) rfl (by decide) rfl inX10 hlk hd hn kk
theorem p_X10_thrown (C : Cx x WM cc own nL rm ret) {v : Int32} (hlk : Cond.fieldLink own idx "LabyrinthGardenModel" "thrown" "I" ∈ wsL_law0) (hd : decode cc pc = .ok (.putfield idx, 3)) (hn : pc + 3 = n) (e : S' = up S 0 2 v) (kk : V x WM nL Q S' n L st) : V x WM nL Q S pc L (.int v :: .ref (xq x 0) :: st) := by
  subst e
  exact v_put C (i := 2) (ty := .int) (oX10 _ _ _) rfl (by decide) (Nat.le_of_ble_eq_true rfl) inX10 tyX10 tyX10_ok nmX10 rfl (by decide +kernel) rfl rfl hlk hd hn (setM _ _ _ (by decide) rfl) kk
theorem g_X10_fault (C : Cx x WM cc own nL rm ret) (hlk : Cond.fieldLink own idx "LabyrinthGardenModel" "fault" "I" ∈ wsL_law0) (hd : decode cc pc = .ok (.getfield idx, 3)) (hn : pc + 3 = n) (kk : V x WM nL Q S n L (.int (rd S 0 3) :: st)) : V x WM nL Q S pc L (.ref (xq x 0) :: st) := v_get C (i := 3) (oX10 _ _ _) rfl (by decide) rfl inX10 hlk hd hn kk
theorem p_X10_fault (C : Cx x WM cc own nL rm ret) {v : Int32} (hlk : Cond.fieldLink own idx "LabyrinthGardenModel" "fault" "I" ∈ wsL_law0) (hd : decode cc pc = .ok (.putfield idx, 3)) (hn : pc + 3 = n) (e : S' = up S 0 3 v) (kk : V x WM nL Q S' n L st) : V x WM nL Q S pc L (.int v :: .ref (xq x 0) :: st) := by
  subst e
  exact v_put C (i := 3) (ty := .int) (oX10 _ _ _) rfl (by decide) (Nat.le_of_ble_eq_true rfl) inX10 tyX10 tyX10_ok nmX10 rfl (by decide +kernel) rfl rfl hlk hd hn (setM _ _ _ (by decide) rfl) kk
theorem g_X10_faultPlace (C : Cx x WM cc own nL rm ret) (hlk : Cond.fieldLink own idx "LabyrinthGardenModel" "faultPlace" "I" ∈ wsL_law0) (hd : decode cc pc = .ok (.getfield idx, 3)) (hn : pc + 3 = n) (kk : V x WM nL Q S n L (.int (rd S 0 4) :: st)) : V x WM nL Q S pc L (.ref (xq x 0) :: st) := v_get C (i := 4) (oX10 _ _ _) rfl (by decide) rfl inX10 hlk hd hn kk
theorem p_X10_faultPlace (C : Cx x WM cc own nL rm ret) {v : Int32} (hlk : Cond.fieldLink own idx "LabyrinthGardenModel" "faultPlace" "I" ∈ wsL_law0) (hd : decode cc pc = .ok (.putfield idx, 3)) (hn : pc + 3 = n) (e : S' = up S 0 4 v) (kk : V x WM nL Q S' n L st) : V x WM nL Q S pc L (.int v :: .ref (xq x 0) :: st) := by
  subst e
  exact v_put C (i := 4) (ty := .int) (oX10 _ _ _) rfl (by decide) (Nat.le_of_ble_eq_true rfl) inX10 tyX10 tyX10_ok nmX10 rfl (by decide +kernel) rfl rfl hlk hd hn (setM _ _ _ (by decide) rfl) kk
theorem g_X10_lines (C : Cx x WM cc own nL rm ret) (hlk : Cond.fieldLink own idx "LabyrinthGardenModel" "lines" "I" ∈ wsL_law0) (hd : decode cc pc = .ok (.getfield idx, 3)) (hn : pc + 3 = n) (kk : V x WM nL Q S n L (.int (rd S 0 5) :: st)) : V x WM nL Q S pc L (.ref (xq x 0) :: st) := v_get C (i := 5) (oX10 _ _ _) rfl (by decide) rfl inX10 hlk hd hn kk
theorem p_X10_lines (C : Cx x WM cc own nL rm ret) {v : Int32} (hlk : Cond.fieldLink own idx "LabyrinthGardenModel" "lines" "I" ∈ wsL_law0) (hd : decode cc pc = .ok (.putfield idx, 3)) (hn : pc + 3 = n) (e : S' = up S 0 5 v) (kk : V x WM nL Q S' n L st) : V x WM nL Q S pc L (.int v :: .ref (xq x 0) :: st) := by
  subst e
  exact v_put C (i := 5) (ty := .int) (oX10 _ _ _) rfl (by decide) (Nat.le_of_ble_eq_true rfl) inX10 tyX10 tyX10_ok nmX10 rfl (by decide +kernel) rfl rfl hlk hd hn (setM _ _ _ (by decide) rfl) kk
theorem g_X10_first (C : Cx x WM cc own nL rm ret) (hlk : Cond.fieldLink own idx "LabyrinthGardenModel" "first" "I" ∈ wsL_law0) (hd : decode cc pc = .ok (.getfield idx, 3)) (hn : pc + 3 = n) (kk : V x WM nL Q S n L (.int (rd S 0 6) :: st)) : V x WM nL Q S pc L (.ref (xq x 0) :: st) := v_get C (i := 6) (oX10 _ _ _) rfl (by decide) rfl inX10 hlk hd hn kk
theorem p_X10_first (C : Cx x WM cc own nL rm ret) {v : Int32} (hlk : Cond.fieldLink own idx "LabyrinthGardenModel" "first" "I" ∈ wsL_law0) (hd : decode cc pc = .ok (.putfield idx, 3)) (hn : pc + 3 = n) (e : S' = up S 0 6 v) (kk : V x WM nL Q S' n L st) : V x WM nL Q S pc L (.int v :: .ref (xq x 0) :: st) := by
  subst e
  exact v_put C (i := 6) (ty := .int) (oX10 _ _ _) rfl (by decide) (Nat.le_of_ble_eq_true rfl) inX10 tyX10 tyX10_ok nmX10 rfl (by decide +kernel) rfl rfl hlk hd hn (setM _ _ _ (by decide) rfl) kk
theorem g_X10_act (C : Cx x WM cc own nL rm ret) (hlk : Cond.fieldLink own idx "LabyrinthGardenModel" "act" "[I" ∈ wsL_law0) (hd : decode cc pc = .ok (.getfield idx, 3)) (hn : pc + 3 = n) (kk : V x WM nL Q S n L (.ref (xq x 2) :: st)) : V x WM nL Q S pc L (.ref (xq x 0) :: st) := v_get C (i := 7) (oX10 _ _ _) rfl (by decide) rfl inX10 hlk hd hn kk
theorem g_X10_junctions (C : Cx x WM cc own nL rm ret) (hlk : Cond.fieldLink own idx "LabyrinthGardenModel" "junctions" "I" ∈ wsL_law0) (hd : decode cc pc = .ok (.getfield idx, 3)) (hn : pc + 3 = n) (kk : V x WM nL Q S n L (.int (rd S 0 8) :: st)) : V x WM nL Q S pc L (.ref (xq x 0) :: st) := v_get C (i := 8) (oX10 _ _ _) rfl (by decide) rfl inX10 hlk hd hn kk
theorem p_X10_junctions (C : Cx x WM cc own nL rm ret) {v : Int32} (hlk : Cond.fieldLink own idx "LabyrinthGardenModel" "junctions" "I" ∈ wsL_law0) (hd : decode cc pc = .ok (.putfield idx, 3)) (hn : pc + 3 = n) (e : S' = up S 0 8 v) (kk : V x WM nL Q S' n L st) : V x WM nL Q S pc L (.int v :: .ref (xq x 0) :: st) := by
  subst e
  exact v_put C (i := 8) (ty := .int) (oX10 _ _ _) rfl (by decide) (Nat.le_of_ble_eq_true rfl) inX10 tyX10 tyX10_ok nmX10 rfl (by decide +kernel) rfl rfl hlk hd hn (setM _ _ _ (by decide) rfl) kk
theorem g_X10_out (C : Cx x WM cc own nL rm ret) (hlk : Cond.fieldLink own idx "LabyrinthGardenModel" "out" "[Z" ∈ wsL_law0) (hd : decode cc pc = .ok (.getfield idx, 3)) (hn : pc + 3 = n) (kk : V x WM nL Q S n L (.ref (xq x 3) :: st)) : V x WM nL Q S pc L (.ref (xq x 0) :: st) := v_get C (i := 9) (oX10 _ _ _) rfl (by decide) rfl inX10 hlk hd hn kk
theorem g_X10_marked (C : Cx x WM cc own nL rm ret) (hlk : Cond.fieldLink own idx "LabyrinthGardenModel" "marked" "[Z" ∈ wsL_law0) (hd : decode cc pc = .ok (.getfield idx, 3)) (hn : pc + 3 = n) (kk : V x WM nL Q S n L (.ref (xq x 4) :: st)) : V x WM nL Q S pc L (.ref (xq x 0) :: st) := v_get C (i := 10) (oX10 _ _ _) rfl (by decide) rfl inX10 hlk hd hn kk
theorem g_X10_paths (C : Cx x WM cc own nL rm ret) (hlk : Cond.fieldLink own idx "LabyrinthGardenModel" "paths" "I" ∈ wsL_law0) (hd : decode cc pc = .ok (.getfield idx, 3)) (hn : pc + 3 = n) (kk : V x WM nL Q S n L (.int (rd S 0 11) :: st)) : V x WM nL Q S pc L (.ref (xq x 0) :: st) := v_get C (i := 11) (oX10 _ _ _) rfl (by decide) rfl inX10 hlk hd hn kk
theorem p_X10_paths (C : Cx x WM cc own nL rm ret) {v : Int32} (hlk : Cond.fieldLink own idx "LabyrinthGardenModel" "paths" "I" ∈ wsL_law0) (hd : decode cc pc = .ok (.putfield idx, 3)) (hn : pc + 3 = n) (e : S' = up S 0 11 v) (kk : V x WM nL Q S' n L st) : V x WM nL Q S pc L (.int v :: .ref (xq x 0) :: st) := by
  subst e
  exact v_put C (i := 11) (ty := .int) (oX10 _ _ _) rfl (by decide) (Nat.le_of_ble_eq_true rfl) inX10 tyX10 tyX10_ok nmX10 rfl (by decide +kernel) rfl rfl hlk hd hn (setM _ _ _ (by decide) rfl) kk
theorem g_X10_end (C : Cx x WM cc own nL rm ret) (hlk : Cond.fieldLink own idx "LabyrinthGardenModel" "end" "[I" ∈ wsL_law0) (hd : decode cc pc = .ok (.getfield idx, 3)) (hn : pc + 3 = n) (kk : V x WM nL Q S n L (.ref (xq x 5) :: st)) : V x WM nL Q S pc L (.ref (xq x 0) :: st) := v_get C (i := 12) (oX10 _ _ _) rfl (by decide) rfl inX10 hlk hd hn kk
theorem g_X10_gate (C : Cx x WM cc own nL rm ret) (hlk : Cond.fieldLink own idx "LabyrinthGardenModel" "gate" "[I" ∈ wsL_law0) (hd : decode cc pc = .ok (.getfield idx, 3)) (hn : pc + 3 = n) (kk : V x WM nL Q S n L (.ref (xq x 6) :: st)) : V x WM nL Q S pc L (.ref (xq x 0) :: st) := v_get C (i := 13) (oX10 _ _ _) rfl (by decide) rfl inX10 hlk hd hn kk
theorem g_X10_isShut (C : Cx x WM cc own nL rm ret) (hlk : Cond.fieldLink own idx "LabyrinthGardenModel" "isShut" "[Z" ∈ wsL_law0) (hd : decode cc pc = .ok (.getfield idx, 3)) (hn : pc + 3 = n) (kk : V x WM nL Q S n L (.ref (xq x 7) :: st)) : V x WM nL Q S pc L (.ref (xq x 0) :: st) := v_get C (i := 14) (oX10 _ _ _) rfl (by decide) rfl inX10 hlk hd hn kk
theorem g_X10_period (C : Cx x WM cc own nL rm ret) (hlk : Cond.fieldLink own idx "LabyrinthGardenModel" "period" "I" ∈ wsL_law0) (hd : decode cc pc = .ok (.getfield idx, 3)) (hn : pc + 3 = n) (kk : V x WM nL Q S n L (.int (rd S 0 15) :: st)) : V x WM nL Q S pc L (.ref (xq x 0) :: st) := v_get C (i := 15) (oX10 _ _ _) rfl (by decide) rfl inX10 hlk hd hn kk
theorem p_X10_period (C : Cx x WM cc own nL rm ret) {v : Int32} (hlk : Cond.fieldLink own idx "LabyrinthGardenModel" "period" "I" ∈ wsL_law0) (hd : decode cc pc = .ok (.putfield idx, 3)) (hn : pc + 3 = n) (e : S' = up S 0 15 v) (kk : V x WM nL Q S' n L st) : V x WM nL Q S pc L (.int v :: .ref (xq x 0) :: st) := by
  subst e
  exact v_put C (i := 15) (ty := .int) (oX10 _ _ _) rfl (by decide) (Nat.le_of_ble_eq_true rfl) inX10 tyX10 tyX10_ok nmX10 rfl (by decide +kernel) rfl rfl hlk hd hn (setM _ _ _ (by decide) rfl) kk
theorem g_X10_places (C : Cx x WM cc own nL rm ret) (hlk : Cond.fieldLink own idx "LabyrinthGardenModel" "places" "I" ∈ wsL_law0) (hd : decode cc pc = .ok (.getfield idx, 3)) (hn : pc + 3 = n) (kk : V x WM nL Q S n L (.int (rd S 0 16) :: st)) : V x WM nL Q S pc L (.ref (xq x 0) :: st) := v_get C (i := 16) (oX10 _ _ _) rfl (by decide) rfl inX10 hlk hd hn kk
theorem p_X10_places (C : Cx x WM cc own nL rm ret) {v : Int32} (hlk : Cond.fieldLink own idx "LabyrinthGardenModel" "places" "I" ∈ wsL_law0) (hd : decode cc pc = .ok (.putfield idx, 3)) (hn : pc + 3 = n) (e : S' = up S 0 16 v) (kk : V x WM nL Q S' n L st) : V x WM nL Q S pc L (.int v :: .ref (xq x 0) :: st) := by
  subst e
  exact v_put C (i := 16) (ty := .int) (oX10 _ _ _) rfl (by decide) (Nat.le_of_ble_eq_true rfl) inX10 tyX10 tyX10_ok nmX10 rfl (by decide +kernel) rfl rfl hlk hd hn (setM _ _ _ (by decide) rfl) kk
theorem g_X10_at (C : Cx x WM cc own nL rm ret) (hlk : Cond.fieldLink own idx "LabyrinthGardenModel" "at" "[I" ∈ wsL_law0) (hd : decode cc pc = .ok (.getfield idx, 3)) (hn : pc + 3 = n) (kk : V x WM nL Q S n L (.ref (xq x 8) :: st)) : V x WM nL Q S pc L (.ref (xq x 0) :: st) := v_get C (i := 17) (oX10 _ _ _) rfl (by decide) rfl inX10 hlk hd hn kk
theorem g_X10_ends (C : Cx x WM cc own nL rm ret) (hlk : Cond.fieldLink own idx "LabyrinthGardenModel" "ends" "[I" ∈ wsL_law0) (hd : decode cc pc = .ok (.getfield idx, 3)) (hn : pc + 3 = n) (kk : V x WM nL Q S n L (.ref (xq x 9) :: st)) : V x WM nL Q S pc L (.ref (xq x 0) :: st) := v_get C (i := 18) (oX10 _ _ _) rfl (by decide) rfl inX10 hlk hd hn kk
theorem g_X10_placeOf (C : Cx x WM cc own nL rm ret) (hlk : Cond.fieldLink own idx "LabyrinthGardenModel" "placeOf" "[I" ∈ wsL_law0) (hd : decode cc pc = .ok (.getfield idx, 3)) (hn : pc + 3 = n) (kk : V x WM nL Q S n L (.ref (xq x 10) :: st)) : V x WM nL Q S pc L (.ref (xq x 0) :: st) := v_get C (i := 19) (oX10 _ _ _) rfl (by decide) rfl inX10 hlk hd hn kk
theorem g_X10_size (C : Cx x WM cc own nL rm ret) (hlk : Cond.fieldLink own idx "LabyrinthGardenModel" "size" "[I" ∈ wsL_law0) (hd : decode cc pc = .ok (.getfield idx, 3)) (hn : pc + 3 = n) (kk : V x WM nL Q S n L (.ref (xq x 11) :: st)) : V x WM nL Q S pc L (.ref (xq x 0) :: st) := v_get C (i := 20) (oX10 _ _ _) rfl (by decide) rfl inX10 hlk hd hn kk
theorem g_X10_base (C : Cx x WM cc own nL rm ret) (hlk : Cond.fieldLink own idx "LabyrinthGardenModel" "base" "[I" ∈ wsL_law0) (hd : decode cc pc = .ok (.getfield idx, 3)) (hn : pc + 3 = n) (kk : V x WM nL Q S n L (.ref (xq x 12) :: st)) : V x WM nL Q S pc L (.ref (xq x 0) :: st) := v_get C (i := 21) (oX10 _ _ _) rfl (by decide) rfl inX10 hlk hd hn kk
theorem g_X10_words (C : Cx x WM cc own nL rm ret) (hlk : Cond.fieldLink own idx "LabyrinthGardenModel" "words" "[I" ∈ wsL_law0) (hd : decode cc pc = .ok (.getfield idx, 3)) (hn : pc + 3 = n) (kk : V x WM nL Q S n L (.ref (xq x 13) :: st)) : V x WM nL Q S pc L (.ref (xq x 0) :: st) := v_get C (i := 22) (oX10 _ _ _) rfl (by decide) rfl inX10 hlk hd hn kk
theorem g_X10_stop (C : Cx x WM cc own nL rm ret) (hlk : Cond.fieldLink own idx "LabyrinthGardenModel" "stop" "I" ∈ wsL_law0) (hd : decode cc pc = .ok (.getfield idx, 3)) (hn : pc + 3 = n) (kk : V x WM nL Q S n L (.int (rd S 0 23) :: st)) : V x WM nL Q S pc L (.ref (xq x 0) :: st) := v_get C (i := 23) (oX10 _ _ _) rfl (by decide) rfl inX10 hlk hd hn kk
theorem p_X10_stop (C : Cx x WM cc own nL rm ret) {v : Int32} (hlk : Cond.fieldLink own idx "LabyrinthGardenModel" "stop" "I" ∈ wsL_law0) (hd : decode cc pc = .ok (.putfield idx, 3)) (hn : pc + 3 = n) (e : S' = up S 0 23 v) (kk : V x WM nL Q S' n L st) : V x WM nL Q S pc L (.int v :: .ref (xq x 0) :: st) := by
  subst e
  exact v_put C (i := 23) (ty := .int) (oX10 _ _ _) rfl (by decide) (Nat.le_of_ble_eq_true rfl) inX10 tyX10 tyX10_ok nmX10 rfl (by decide +kernel) rfl rfl hlk hd hn (setM _ _ _ (by decide) rfl) kk
theorem g_X10_next (C : Cx x WM cc own nL rm ret) (hlk : Cond.fieldLink own idx "LabyrinthGardenModel" "next" "I" ∈ wsL_law0) (hd : decode cc pc = .ok (.getfield idx, 3)) (hn : pc + 3 = n) (kk : V x WM nL Q S n L (.int (rd S 0 24) :: st)) : V x WM nL Q S pc L (.ref (xq x 0) :: st) := v_get C (i := 24) (oX10 _ _ _) rfl (by decide) rfl inX10 hlk hd hn kk
theorem p_X10_next (C : Cx x WM cc own nL rm ret) {v : Int32} (hlk : Cond.fieldLink own idx "LabyrinthGardenModel" "next" "I" ∈ wsL_law0) (hd : decode cc pc = .ok (.putfield idx, 3)) (hn : pc + 3 = n) (e : S' = up S 0 24 v) (kk : V x WM nL Q S' n L st) : V x WM nL Q S pc L (.int v :: .ref (xq x 0) :: st) := by
  subst e
  exact v_put C (i := 24) (ty := .int) (oX10 _ _ _) rfl (by decide) (Nat.le_of_ble_eq_true rfl) inX10 tyX10 tyX10_ok nmX10 rfl (by decide +kernel) rfl rfl hlk hd hn (setM _ _ _ (by decide) rfl) kk
theorem g_X10_kind (C : Cx x WM cc own nL rm ret) (hlk : Cond.fieldLink own idx "LabyrinthGardenModel" "kind" "I" ∈ wsL_law0) (hd : decode cc pc = .ok (.getfield idx, 3)) (hn : pc + 3 = n) (kk : V x WM nL Q S n L (.int (rd S 0 25) :: st)) : V x WM nL Q S pc L (.ref (xq x 0) :: st) := v_get C (i := 25) (oX10 _ _ _) rfl (by decide) rfl inX10 hlk hd hn kk
theorem p_X10_kind (C : Cx x WM cc own nL rm ret) {v : Int32} (hlk : Cond.fieldLink own idx "LabyrinthGardenModel" "kind" "I" ∈ wsL_law0) (hd : decode cc pc = .ok (.putfield idx, 3)) (hn : pc + 3 = n) (e : S' = up S 0 25 v) (kk : V x WM nL Q S' n L st) : V x WM nL Q S pc L (.int v :: .ref (xq x 0) :: st) := by
  subst e
  exact v_put C (i := 25) (ty := .int) (oX10 _ _ _) rfl (by decide) (Nat.le_of_ble_eq_true rfl) inX10 tyX10 tyX10_ok nmX10 rfl (by decide +kernel) rfl rfl hlk hd hn (setM _ _ _ (by decide) rfl) kk
theorem g_X10_which (C : Cx x WM cc own nL rm ret) (hlk : Cond.fieldLink own idx "LabyrinthGardenModel" "which" "I" ∈ wsL_law0) (hd : decode cc pc = .ok (.getfield idx, 3)) (hn : pc + 3 = n) (kk : V x WM nL Q S n L (.int (rd S 0 26) :: st)) : V x WM nL Q S pc L (.ref (xq x 0) :: st) := v_get C (i := 26) (oX10 _ _ _) rfl (by decide) rfl inX10 hlk hd hn kk
theorem p_X10_which (C : Cx x WM cc own nL rm ret) {v : Int32} (hlk : Cond.fieldLink own idx "LabyrinthGardenModel" "which" "I" ∈ wsL_law0) (hd : decode cc pc = .ok (.putfield idx, 3)) (hn : pc + 3 = n) (e : S' = up S 0 26 v) (kk : V x WM nL Q S' n L st) : V x WM nL Q S pc L (.int v :: .ref (xq x 0) :: st) := by
  subst e
  exact v_put C (i := 26) (ty := .int) (oX10 _ _ _) rfl (by decide) (Nat.le_of_ble_eq_true rfl) inX10 tyX10 tyX10_ok nmX10 rfl (by decide +kernel) rfl rfl hlk hd hn (setM _ _ _ (by decide) rfl) kk
theorem g_X10_token (C : Cx x WM cc own nL rm ret) (hlk : Cond.fieldLink own idx "LabyrinthGardenModel" "token" "I" ∈ wsL_law0) (hd : decode cc pc = .ok (.getfield idx, 3)) (hn : pc + 3 = n) (kk : V x WM nL Q S n L (.int (rd S 0 27) :: st)) : V x WM nL Q S pc L (.ref (xq x 0) :: st) := v_get C (i := 27) (oX10 _ _ _) rfl (by decide) rfl inX10 hlk hd hn kk
theorem p_X10_token (C : Cx x WM cc own nL rm ret) {v : Int32} (hlk : Cond.fieldLink own idx "LabyrinthGardenModel" "token" "I" ∈ wsL_law0) (hd : decode cc pc = .ok (.putfield idx, 3)) (hn : pc + 3 = n) (e : S' = up S 0 27 v) (kk : V x WM nL Q S' n L st) : V x WM nL Q S pc L (.int v :: .ref (xq x 0) :: st) := by
  subst e
  exact v_put C (i := 27) (ty := .int) (oX10 _ _ _) rfl (by decide) (Nat.le_of_ble_eq_true rfl) inX10 tyX10 tyX10_ok nmX10 rfl (by decide +kernel) rfl rfl hlk hd hn (setM _ _ _ (by decide) rfl) kk
theorem g_X10_named (C : Cx x WM cc own nL rm ret) (hlk : Cond.fieldLink own idx "LabyrinthGardenModel" "named" "I" ∈ wsL_law0) (hd : decode cc pc = .ok (.getfield idx, 3)) (hn : pc + 3 = n) (kk : V x WM nL Q S n L (.int (rd S 0 28) :: st)) : V x WM nL Q S pc L (.ref (xq x 0) :: st) := v_get C (i := 28) (oX10 _ _ _) rfl (by decide) rfl inX10 hlk hd hn kk
theorem p_X10_named (C : Cx x WM cc own nL rm ret) {v : Int32} (hlk : Cond.fieldLink own idx "LabyrinthGardenModel" "named" "I" ∈ wsL_law0) (hd : decode cc pc = .ok (.putfield idx, 3)) (hn : pc + 3 = n) (e : S' = up S 0 28 v) (kk : V x WM nL Q S' n L st) : V x WM nL Q S pc L (.int v :: .ref (xq x 0) :: st) := by
  subst e
  exact v_put C (i := 28) (ty := .int) (oX10 _ _ _) rfl (by decide) (Nat.le_of_ble_eq_true rfl) inX10 tyX10 tyX10_ok nmX10 rfl (by decide +kernel) rfl rfl hlk hd hn (setM _ _ _ (by decide) rfl) kk
theorem g_X10_namedState (C : Cx x WM cc own nL rm ret) (hlk : Cond.fieldLink own idx "LabyrinthGardenModel" "namedState" "[I" ∈ wsL_law0) (hd : decode cc pc = .ok (.getfield idx, 3)) (hn : pc + 3 = n) (kk : V x WM nL Q S n L (.ref (xq x 14) :: st)) : V x WM nL Q S pc L (.ref (xq x 0) :: st) := v_get C (i := 29) (oX10 _ _ _) rfl (by decide) rfl inX10 hlk hd hn kk
theorem g_X10_namedPlace (C : Cx x WM cc own nL rm ret) (hlk : Cond.fieldLink own idx "LabyrinthGardenModel" "namedPlace" "[I" ∈ wsL_law0) (hd : decode cc pc = .ok (.getfield idx, 3)) (hn : pc + 3 = n) (kk : V x WM nL Q S n L (.ref (xq x 15) :: st)) : V x WM nL Q S pc L (.ref (xq x 0) :: st) := v_get C (i := 30) (oX10 _ _ _) rfl (by decide) rfl inX10 hlk hd hn kk
theorem g_X10_told (C : Cx x WM cc own nL rm ret) (hlk : Cond.fieldLink own idx "LabyrinthGardenModel" "told" "[Z" ∈ wsL_law0) (hd : decode cc pc = .ok (.getfield idx, 3)) (hn : pc + 3 = n) (kk : V x WM nL Q S n L (.ref (xq x 16) :: st)) : V x WM nL Q S pc L (.ref (xq x 0) :: st) := v_get C (i := 31) (oX10 _ _ _) rfl (by decide) rfl inX10 hlk hd hn kk
theorem g_X10_readLines (C : Cx x WM cc own nL rm ret) (hlk : Cond.fieldLink own idx "LabyrinthGardenModel" "readLines" "I" ∈ wsL_law0) (hd : decode cc pc = .ok (.getfield idx, 3)) (hn : pc + 3 = n) (kk : V x WM nL Q S n L (.int (rd S 0 32) :: st)) : V x WM nL Q S pc L (.ref (xq x 0) :: st) := v_get C (i := 32) (oX10 _ _ _) rfl (by decide) rfl inX10 hlk hd hn kk
theorem p_X10_readLines (C : Cx x WM cc own nL rm ret) {v : Int32} (hlk : Cond.fieldLink own idx "LabyrinthGardenModel" "readLines" "I" ∈ wsL_law0) (hd : decode cc pc = .ok (.putfield idx, 3)) (hn : pc + 3 = n) (e : S' = up S 0 32 v) (kk : V x WM nL Q S' n L st) : V x WM nL Q S pc L (.int v :: .ref (xq x 0) :: st) := by
  subst e
  exact v_put C (i := 32) (ty := .int) (oX10 _ _ _) rfl (by decide) (Nat.le_of_ble_eq_true rfl) inX10 tyX10 tyX10_ok nmX10 rfl (by decide +kernel) rfl rfl hlk hd hn (setM _ _ _ (by decide) rfl) kk
theorem g_X10_readFirst (C : Cx x WM cc own nL rm ret) (hlk : Cond.fieldLink own idx "LabyrinthGardenModel" "readFirst" "I" ∈ wsL_law0) (hd : decode cc pc = .ok (.getfield idx, 3)) (hn : pc + 3 = n) (kk : V x WM nL Q S n L (.int (rd S 0 33) :: st)) : V x WM nL Q S pc L (.ref (xq x 0) :: st) := v_get C (i := 33) (oX10 _ _ _) rfl (by decide) rfl inX10 hlk hd hn kk
theorem p_X10_readFirst (C : Cx x WM cc own nL rm ret) {v : Int32} (hlk : Cond.fieldLink own idx "LabyrinthGardenModel" "readFirst" "I" ∈ wsL_law0) (hd : decode cc pc = .ok (.putfield idx, 3)) (hn : pc + 3 = n) (e : S' = up S 0 33 v) (kk : V x WM nL Q S' n L st) : V x WM nL Q S pc L (.int v :: .ref (xq x 0) :: st) := by
  subst e
  exact v_put C (i := 33) (ty := .int) (oX10 _ _ _) rfl (by decide) (Nat.le_of_ble_eq_true rfl) inX10 tyX10 tyX10_ok nmX10 rfl (by decide +kernel) rfl rfl hlk hd hn (setM _ _ _ (by decide) rfl) kk
theorem g_X10_was (C : Cx x WM cc own nL rm ret) (hlk : Cond.fieldLink own idx "LabyrinthGardenModel" "was" "[I" ∈ wsL_law0) (hd : decode cc pc = .ok (.getfield idx, 3)) (hn : pc + 3 = n) (kk : V x WM nL Q S n L (.ref (xq x 17) :: st)) : V x WM nL Q S pc L (.ref (xq x 0) :: st) := v_get C (i := 34) (oX10 _ _ _) rfl (by decide) rfl inX10 hlk hd hn kk
theorem g_X10_beatOf (C : Cx x WM cc own nL rm ret) (hlk : Cond.fieldLink own idx "LabyrinthGardenModel" "beatOf" "[I" ∈ wsL_law0) (hd : decode cc pc = .ok (.getfield idx, 3)) (hn : pc + 3 = n) (kk : V x WM nL Q S n L (.ref (xq x 18) :: st)) : V x WM nL Q S pc L (.ref (xq x 0) :: st) := v_get C (i := 35) (oX10 _ _ _) rfl (by decide) rfl inX10 hlk hd hn kk
theorem g_X10_lies (C : Cx x WM cc own nL rm ret) (hlk : Cond.fieldLink own idx "LabyrinthGardenModel" "lies" "[Z" ∈ wsL_law0) (hd : decode cc pc = .ok (.getfield idx, 3)) (hn : pc + 3 = n) (kk : V x WM nL Q S n L (.ref (xq x 19) :: st)) : V x WM nL Q S pc L (.ref (xq x 0) :: st) := v_get C (i := 36) (oX10 _ _ _) rfl (by decide) rfl inX10 hlk hd hn kk
theorem g_X10_where (C : Cx x WM cc own nL rm ret) (hlk : Cond.fieldLink own idx "LabyrinthGardenModel" "where" "I" ∈ wsL_law0) (hd : decode cc pc = .ok (.getfield idx, 3)) (hn : pc + 3 = n) (kk : V x WM nL Q S n L (.int (rd S 0 37) :: st)) : V x WM nL Q S pc L (.ref (xq x 0) :: st) := v_get C (i := 37) (oX10 _ _ _) rfl (by decide) rfl inX10 hlk hd hn kk
theorem p_X10_where (C : Cx x WM cc own nL rm ret) {v : Int32} (hlk : Cond.fieldLink own idx "LabyrinthGardenModel" "where" "I" ∈ wsL_law0) (hd : decode cc pc = .ok (.putfield idx, 3)) (hn : pc + 3 = n) (e : S' = up S 0 37 v) (kk : V x WM nL Q S' n L st) : V x WM nL Q S pc L (.int v :: .ref (xq x 0) :: st) := by
  subst e
  exact v_put C (i := 37) (ty := .int) (oX10 _ _ _) rfl (by decide) (Nat.le_of_ble_eq_true rfl) inX10 tyX10 tyX10_ok nmX10 rfl (by decide +kernel) rfl rfl hlk hd hn (setM _ _ _ (by decide) rfl) kk
theorem g_X10_state (C : Cx x WM cc own nL rm ret) (hlk : Cond.fieldLink own idx "LabyrinthGardenModel" "state" "I" ∈ wsL_law0) (hd : decode cc pc = .ok (.getfield idx, 3)) (hn : pc + 3 = n) (kk : V x WM nL Q S n L (.int (rd S 0 38) :: st)) : V x WM nL Q S pc L (.ref (xq x 0) :: st) := v_get C (i := 38) (oX10 _ _ _) rfl (by decide) rfl inX10 hlk hd hn kk
theorem p_X10_state (C : Cx x WM cc own nL rm ret) {v : Int32} (hlk : Cond.fieldLink own idx "LabyrinthGardenModel" "state" "I" ∈ wsL_law0) (hd : decode cc pc = .ok (.putfield idx, 3)) (hn : pc + 3 = n) (e : S' = up S 0 38 v) (kk : V x WM nL Q S' n L st) : V x WM nL Q S pc L (.int v :: .ref (xq x 0) :: st) := by
  subst e
  exact v_put C (i := 38) (ty := .int) (oX10 _ _ _) rfl (by decide) (Nat.le_of_ble_eq_true rfl) inX10 tyX10 tyX10_ok nmX10 rfl (by decide +kernel) rfl rfl hlk hd hn (setM _ _ _ (by decide) rfl) kk
theorem g_X10_beat (C : Cx x WM cc own nL rm ret) (hlk : Cond.fieldLink own idx "LabyrinthGardenModel" "beat" "I" ∈ wsL_law0) (hd : decode cc pc = .ok (.getfield idx, 3)) (hn : pc + 3 = n) (kk : V x WM nL Q S n L (.int (rd S 0 39) :: st)) : V x WM nL Q S pc L (.ref (xq x 0) :: st) := v_get C (i := 39) (oX10 _ _ _) rfl (by decide) rfl inX10 hlk hd hn kk
theorem p_X10_beat (C : Cx x WM cc own nL rm ret) {v : Int32} (hlk : Cond.fieldLink own idx "LabyrinthGardenModel" "beat" "I" ∈ wsL_law0) (hd : decode cc pc = .ok (.putfield idx, 3)) (hn : pc + 3 = n) (e : S' = up S 0 39 v) (kk : V x WM nL Q S' n L st) : V x WM nL Q S pc L (.int v :: .ref (xq x 0) :: st) := by
  subst e
  exact v_put C (i := 39) (ty := .int) (oX10 _ _ _) rfl (by decide) (Nat.le_of_ble_eq_true rfl) inX10 tyX10 tyX10_ok nmX10 rfl (by decide +kernel) rfl rfl hlk hd hn (setM _ _ _ (by decide) rfl) kk
theorem g_X10_lead (C : Cx x WM cc own nL rm ret) (hlk : Cond.fieldLink own idx "LabyrinthGardenModel" "lead" "I" ∈ wsL_law0) (hd : decode cc pc = .ok (.getfield idx, 3)) (hn : pc + 3 = n) (kk : V x WM nL Q S n L (.int (rd S 0 40) :: st)) : V x WM nL Q S pc L (.ref (xq x 0) :: st) := v_get C (i := 40) (oX10 _ _ _) rfl (by decide) rfl inX10 hlk hd hn kk
theorem p_X10_lead (C : Cx x WM cc own nL rm ret) {v : Int32} (hlk : Cond.fieldLink own idx "LabyrinthGardenModel" "lead" "I" ∈ wsL_law0) (hd : decode cc pc = .ok (.putfield idx, 3)) (hn : pc + 3 = n) (e : S' = up S 0 40 v) (kk : V x WM nL Q S' n L st) : V x WM nL Q S pc L (.int v :: .ref (xq x 0) :: st) := by
  subst e
  exact v_put C (i := 40) (ty := .int) (oX10 _ _ _) rfl (by decide) (Nat.le_of_ble_eq_true rfl) inX10 tyX10 tyX10_ok nmX10 rfl (by decide +kernel) rfl rfl hlk hd hn (setM _ _ _ (by decide) rfl) kk
theorem g_X10_lap (C : Cx x WM cc own nL rm ret) (hlk : Cond.fieldLink own idx "LabyrinthGardenModel" "lap" "I" ∈ wsL_law0) (hd : decode cc pc = .ok (.getfield idx, 3)) (hn : pc + 3 = n) (kk : V x WM nL Q S n L (.int (rd S 0 41) :: st)) : V x WM nL Q S pc L (.ref (xq x 0) :: st) := v_get C (i := 41) (oX10 _ _ _) rfl (by decide) rfl inX10 hlk hd hn kk
theorem p_X10_lap (C : Cx x WM cc own nL rm ret) {v : Int32} (hlk : Cond.fieldLink own idx "LabyrinthGardenModel" "lap" "I" ∈ wsL_law0) (hd : decode cc pc = .ok (.putfield idx, 3)) (hn : pc + 3 = n) (e : S' = up S 0 41 v) (kk : V x WM nL Q S' n L st) : V x WM nL Q S pc L (.int v :: .ref (xq x 0) :: st) := by
  subst e
  exact v_put C (i := 41) (ty := .int) (oX10 _ _ _) rfl (by decide) (Nat.le_of_ble_eq_true rfl) inX10 tyX10 tyX10_ok nmX10 rfl (by decide +kernel) rfl rfl hlk hd hn (setM _ _ _ (by decide) rfl) kk
theorem g_X10_many (C : Cx x WM cc own nL rm ret) (hlk : Cond.fieldLink own idx "LabyrinthGardenModel" "many" "I" ∈ wsL_law0) (hd : decode cc pc = .ok (.getfield idx, 3)) (hn : pc + 3 = n) (kk : V x WM nL Q S n L (.int (rd S 0 42) :: st)) : V x WM nL Q S pc L (.ref (xq x 0) :: st) := v_get C (i := 42) (oX10 _ _ _) rfl (by decide) rfl inX10 hlk hd hn kk
theorem p_X10_many (C : Cx x WM cc own nL rm ret) {v : Int32} (hlk : Cond.fieldLink own idx "LabyrinthGardenModel" "many" "I" ∈ wsL_law0) (hd : decode cc pc = .ok (.putfield idx, 3)) (hn : pc + 3 = n) (e : S' = up S 0 42 v) (kk : V x WM nL Q S' n L st) : V x WM nL Q S pc L (.int v :: .ref (xq x 0) :: st) := by
  subst e
  exact v_put C (i := 42) (ty := .int) (oX10 _ _ _) rfl (by decide) (Nat.le_of_ble_eq_true rfl) inX10 tyX10 tyX10_ok nmX10 rfl (by decide +kernel) rfl rfl hlk hd hn (setM _ _ _ (by decide) rfl) kk
theorem g_X10_isWalk (C : Cx x WM cc own nL rm ret) (hlk : Cond.fieldLink own idx "LabyrinthGardenModel" "isWalk" "Z" ∈ wsL_law0) (hd : decode cc pc = .ok (.getfield idx, 3)) (hn : pc + 3 = n) (kk : V x WM nL Q S n L (.int (rd S 0 43) :: st)) : V x WM nL Q S pc L (.ref (xq x 0) :: st) := v_get C (i := 43) (oX10 _ _ _) rfl (by decide) rfl inX10 hlk hd hn kk
theorem p_X10_isWalk (C : Cx x WM cc own nL rm ret) {v : Int32} (hz : v = 0 ∨ v = 1) (hlk : Cond.fieldLink own idx "LabyrinthGardenModel" "isWalk" "Z" ∈ wsL_law0) (hd : decode cc pc = .ok (.putfield idx, 3)) (hn : pc + 3 = n) (e : S' = up S 0 43 v) (kk : V x WM nL Q S' n L st) : V x WM nL Q S pc L (.int v :: .ref (xq x 0) :: st) := by
  subst e
  exact v_put C (i := 43) (ty := .boolean) (oX10 _ _ _) rfl (by decide) (Nat.le_of_ble_eq_true rfl) inX10 tyX10 tyX10_ok nmX10 rfl (by decide +kernel) (by rcases hz with rfl | rfl <;> rfl) (by rcases hz with rfl | rfl <;> rfl) hlk hd hn (setM _ _ _ (by decide) rfl) kk
theorem g_X10_walkTold (C : Cx x WM cc own nL rm ret) (hlk : Cond.fieldLink own idx "LabyrinthGardenModel" "walkTold" "[I" ∈ wsL_law0) (hd : decode cc pc = .ok (.getfield idx, 3)) (hn : pc + 3 = n) (kk : V x WM nL Q S n L (.ref (xq x 20) :: st)) : V x WM nL Q S pc L (.ref (xq x 0) :: st) := v_get C (i := 44) (oX10 _ _ _) rfl (by decide) rfl inX10 hlk hd hn kk
theorem g_X10_helpMany (C : Cx x WM cc own nL rm ret) (hlk : Cond.fieldLink own idx "LabyrinthGardenModel" "helpMany" "I" ∈ wsL_law0) (hd : decode cc pc = .ok (.getfield idx, 3)) (hn : pc + 3 = n) (kk : V x WM nL Q S n L (.int (rd S 0 45) :: st)) : V x WM nL Q S pc L (.ref (xq x 0) :: st) := v_get C (i := 45) (oX10 _ _ _) rfl (by decide) rfl inX10 hlk hd hn kk
theorem p_X10_helpMany (C : Cx x WM cc own nL rm ret) {v : Int32} (hlk : Cond.fieldLink own idx "LabyrinthGardenModel" "helpMany" "I" ∈ wsL_law0) (hd : decode cc pc = .ok (.putfield idx, 3)) (hn : pc + 3 = n) (e : S' = up S 0 45 v) (kk : V x WM nL Q S' n L st) : V x WM nL Q S pc L (.int v :: .ref (xq x 0) :: st) := by
  subst e
  exact v_put C (i := 45) (ty := .int) (oX10 _ _ _) rfl (by decide) (Nat.le_of_ble_eq_true rfl) inX10 tyX10 tyX10_ok nmX10 rfl (by decide +kernel) rfl rfl hlk hd hn (setM _ _ _ (by decide) rfl) kk
theorem g_X10_helps (C : Cx x WM cc own nL rm ret) (hlk : Cond.fieldLink own idx "LabyrinthGardenModel" "helps" "[I" ∈ wsL_law0) (hd : decode cc pc = .ok (.getfield idx, 3)) (hn : pc + 3 = n) (kk : V x WM nL Q S n L (.ref (xq x 21) :: st)) : V x WM nL Q S pc L (.ref (xq x 0) :: st) := v_get C (i := 46) (oX10 _ _ _) rfl (by decide) rfl inX10 hlk hd hn kk
theorem g_X10_helpTold (C : Cx x WM cc own nL rm ret) (hlk : Cond.fieldLink own idx "LabyrinthGardenModel" "helpTold" "[I" ∈ wsL_law0) (hd : decode cc pc = .ok (.getfield idx, 3)) (hn : pc + 3 = n) (kk : V x WM nL Q S n L (.ref (xq x 22) :: st)) : V x WM nL Q S pc L (.ref (xq x 0) :: st) := v_get C (i := 47) (oX10 _ _ _) rfl (by decide) rfl inX10 hlk hd hn kk
theorem g_X10_taleMany (C : Cx x WM cc own nL rm ret) (hlk : Cond.fieldLink own idx "LabyrinthGardenModel" "taleMany" "I" ∈ wsL_law0) (hd : decode cc pc = .ok (.getfield idx, 3)) (hn : pc + 3 = n) (kk : V x WM nL Q S n L (.int (rd S 0 48) :: st)) : V x WM nL Q S pc L (.ref (xq x 0) :: st) := v_get C (i := 48) (oX10 _ _ _) rfl (by decide) rfl inX10 hlk hd hn kk
theorem p_X10_taleMany (C : Cx x WM cc own nL rm ret) {v : Int32} (hlk : Cond.fieldLink own idx "LabyrinthGardenModel" "taleMany" "I" ∈ wsL_law0) (hd : decode cc pc = .ok (.putfield idx, 3)) (hn : pc + 3 = n) (e : S' = up S 0 48 v) (kk : V x WM nL Q S' n L st) : V x WM nL Q S pc L (.int v :: .ref (xq x 0) :: st) := by
  subst e
  exact v_put C (i := 48) (ty := .int) (oX10 _ _ _) rfl (by decide) (Nat.le_of_ble_eq_true rfl) inX10 tyX10 tyX10_ok nmX10 rfl (by decide +kernel) rfl rfl hlk hd hn (setM _ _ _ (by decide) rfl) kk
theorem g_X10_here (C : Cx x WM cc own nL rm ret) (hlk : Cond.fieldLink own idx "LabyrinthGardenModel" "here" "J" ∈ wsL_law0) (hd : decode cc pc = .ok (.getfield idx, 3)) (hn : pc + 3 = n) (kk : V x WM nL Q S n L (.long (rdL S) :: st)) : V x WM nL Q S pc L (.ref (xq x 0) :: st) := v_get C (i := 49) (oX10 _ _ _) rfl (by decide) rfl inX10 hlk hd hn kk
theorem p_X10_here (C : Cx x WM cc own nL rm ret) {v : Int64} (hlk : Cond.fieldLink own idx "LabyrinthGardenModel" "here" "J" ∈ wsL_law0) (hd : decode cc pc = .ok (.putfield idx, 3)) (hn : pc + 3 = n) (e : S' = upL S v) (kk : V x WM nL Q S' n L st) : V x WM nL Q S pc L (.long v :: .ref (xq x 0) :: st) := by
  subst e
  exact v_put C (i := 49) (ty := .long) (oX10 _ _ _) rfl (by decide) (Nat.le_of_ble_eq_true rfl) inX10 tyX10 tyX10_ok nmX10 rfl (by decide +kernel) rfl rfl hlk hd hn (setML _ _ _ _) kk
theorem g_X10_homeMany (C : Cx x WM cc own nL rm ret) (hlk : Cond.fieldLink own idx "LabyrinthGardenModel" "homeMany" "I" ∈ wsL_law0) (hd : decode cc pc = .ok (.getfield idx, 3)) (hn : pc + 3 = n) (kk : V x WM nL Q S n L (.int (rd S 0 50) :: st)) : V x WM nL Q S pc L (.ref (xq x 0) :: st) := v_get C (i := 50) (oX10 _ _ _) rfl (by decide) rfl inX10 hlk hd hn kk
theorem p_X10_homeMany (C : Cx x WM cc own nL rm ret) {v : Int32} (hlk : Cond.fieldLink own idx "LabyrinthGardenModel" "homeMany" "I" ∈ wsL_law0) (hd : decode cc pc = .ok (.putfield idx, 3)) (hn : pc + 3 = n) (e : S' = up S 0 50 v) (kk : V x WM nL Q S' n L st) : V x WM nL Q S pc L (.int v :: .ref (xq x 0) :: st) := by
  subst e
  exact v_put C (i := 50) (ty := .int) (oX10 _ _ _) rfl (by decide) (Nat.le_of_ble_eq_true rfl) inX10 tyX10 tyX10_ok nmX10 rfl (by decide +kernel) rfl rfl hlk hd hn (setM _ _ _ (by decide) rfl) kk
theorem g_X10_homeTold (C : Cx x WM cc own nL rm ret) (hlk : Cond.fieldLink own idx "LabyrinthGardenModel" "homeTold" "[I" ∈ wsL_law0) (hd : decode cc pc = .ok (.getfield idx, 3)) (hn : pc + 3 = n) (kk : V x WM nL Q S n L (.ref (xq x 23) :: st)) : V x WM nL Q S pc L (.ref (xq x 0) :: st) := v_get C (i := 51) (oX10 _ _ _) rfl (by decide) rfl inX10 hlk hd hn kk
theorem g_X10_tries (C : Cx x WM cc own nL rm ret) (hlk : Cond.fieldLink own idx "LabyrinthGardenModel" "tries" "[I" ∈ wsL_law0) (hd : decode cc pc = .ok (.getfield idx, 3)) (hn : pc + 3 = n) (kk : V x WM nL Q S n L (.ref (xq x 24) :: st)) : V x WM nL Q S pc L (.ref (xq x 0) :: st) := v_get C (i := 52) (oX10 _ _ _) rfl (by decide) rfl inX10 hlk hd hn kk
theorem g_X10_now (C : Cx x WM cc own nL rm ret) (hlk : Cond.fieldLink own idx "LabyrinthGardenModel" "now" "[I" ∈ wsL_law0) (hd : decode cc pc = .ok (.getfield idx, 3)) (hn : pc + 3 = n) (kk : V x WM nL Q S n L (.ref (xq x 25) :: st)) : V x WM nL Q S pc L (.ref (xq x 0) :: st) := v_get C (i := 53) (oX10 _ _ _) rfl (by decide) rfl inX10 hlk hd hn kk
theorem g_X10_sight (C : Cx x WM cc own nL rm ret) (hlk : Cond.fieldLink own idx "LabyrinthGardenModel" "sight" "[I" ∈ wsL_law0) (hd : decode cc pc = .ok (.getfield idx, 3)) (hn : pc + 3 = n) (kk : V x WM nL Q S n L (.ref (xq x 26) :: st)) : V x WM nL Q S pc L (.ref (xq x 0) :: st) := v_get C (i := 54) (oX10 _ _ _) rfl (by decide) rfl inX10 hlk hd hn kk
end Fields
