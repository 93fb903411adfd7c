theorem D_adr2 {A : Nat → Prop} {q : Nat → Nat} {ao : Nat} {ar : Ar} {S S1 : St} {f g : Nat → Int64} (h : va_D A (oRow ao ar f ++ WX q ar S)) : va_D A (oRow ao ar g ++ WX q ar S1) := by
  refine va_D_adr (fun k => ?_) h
  show (((ao, _) :: WX q ar S)[k]?).map Prod.fst = (((ao, _) :: WX q ar S1)[k]?).map Prod.fst
  cases k with
  | zero => rfl
  | succ k => exact adrX q ar S S1 k
/-- a contract that never throws, said as one that may -/
theorem vx_noX {l : Launch} {y : MethodName} {ws : List Cond} {rm : Room} {Pc : Array Value → State → Prop} {Qc : Array Value → State → Outcome → State → Prop} {XC : String → State → State → Prop} {mc ms : Nat} {free : Addr → Prop} (h : vx_Met l y ws rm Pc Qc (fun _ _ _ => False) mc ms free) : vx_Met l y ws rm Pc Qc XC mc ms free := by
  intro p e ha hc hk s m args below h1 h2 h3 h4
  obtain ⟨t, o, b1, b2, b3, hq⟩ := h p e ha hc hk s m args below h1 h2 h3 h4
  refine ⟨t, o, b1, b2, b3, ?_⟩
  rcases hq with hq | ⟨q, -, E, ce, L, hx, -⟩
  · exact Or.inl hq
  · exact hx.elim
section LawCalls2
variable {x : Ctx} {cc : ByteArray} {own : String} {nL : Nat} {rm : Room} {Q : State → Prop} {ws : va_W} {cs ss cs' ss' pc n : Nat} {L : List (Nat × Value)} {st st0 : List Value} {q2 : Nat → Nat} {ao : Nat} {S S1 T T1 : St} {fo : Nat → Int64}
theorem u_callXI (C : CxG x cc own nL rm) {y : MethodName} {bytes : ByteArray} {mL nA idx : Nat} {rt : Option FieldType} {rm2 : Room} {As : List Value} {a : Int32} (hM : MetI (xl x) (xD x) (xq x) (xr x) WX y bytes mL rt rm2 (.ref (xq x 0) :: As) S (a, S1)) (hC : CalV y bytes mL rt RX9 nA) (hlk : Cond.methodLink own idx y ∈ wsL_law0) (hF : Fits rm2 rm mL) (hcR : cs ≤ rm.cells ∧ ss ≤ rm.slots) (hAs : As.length = nA) (hst : st0 = As.reverse ++ .ref (xq x 0) :: st) (hw : (st.map fun v => v.category).sum ≤ 8) (hd : decode cc pc = .ok (.invokevirtual idx, 3)) (hn : pc + 3 = n) (kk : VW x nL Q (LW (xq x) q2 ao (xr x) S1 T fo) cs ss n L (.int a :: st)) : VW x nL Q (LW (xq x) q2 ao (xr x) S T fo) cs ss pc L st0 := by
  obtain ⟨p, l, en, R, s, m, args, below, meth, c, D, q, ar, A⟩ := x
  obtain ⟨hx, hb, hml, hown, hts, hK, hN, hA, hR⟩ := C
  subst hn; subst hR; subst hst
  obtain ⟨hcode, hins, hsel, hini, hyc, hd1, hd2, hd3⟩ := hC
  have hini2 : Cond.initialized y.cls ∈ wsL_law0 := by rw [hyc]; exact hini
  intro H locs ls h hP0 hD0 hS
  have hP : va_P D vwCl ((oRow ao ar fo ++ WM q2 ar T) ++ WX q ar S) H := hP0
  have hD : va_D A ((oRow ao ar fo ++ WM q2 ar T) ++ WX q ar S) := hD0
  have hPc := (P_app hP).2
  have hDc := (D_app hD).2.1
  have hFc := inA hDc hS hA
  refine va_calli (va_runV (As := As) (rest := st) ⟨hx, hb, hml, hown, hts⟩ (hM H.size) ⟨callB_of nA hts (good_X hcode) rfl hF.1 hF.2.1 (hts _ (in_bigX _ hini2)) (hts _ (in_bigX _ hlk)) ⟨hd1, hd2, hd3⟩ hF.2.2, hts _ (in_bigX _ hins), hts _ (in_bigX _ hsel)⟩ ⟨Pre.blind, va_recv hK hPc (ci := 9) (q0 := 0) rfl (oX9 q ar S), fun U hU hW => ⟨rfl, by rw [hU], by rw [hU]; exact hPc, va_K.moved hW.alike hK, hDc.weaken (fun _ _ _ _ => trivial), hN.warm hW⟩⟩ rfl hAs h.1 rfl (lv_room hw) hd hcR) hS (fun a _ ha => hFc a ha) hFc (fun r u t H1 locs1 ht hvm hw2 hB hz hk hS1 => ?_)
  obtain ⟨rfl, rfl⟩ := hw2
  rw [ht] at hB
  obtain ⟨hP2, hD2⟩ := join_app hP hD hk hFc hB (va_D_adr (adrX q ar S _) hDc.self)
  exact kk H1 locs1 ls h hP2 hD2 hS1
theorem u_callXL (C : CxG x cc own nL rm) {y : MethodName} {bytes : ByteArray} {mL nA idx : Nat} {rt : Option FieldType} {rm2 : Room} {As : List Value} {a : Int64} (hM : MetL (xl x) (xD x) (xq x) (xr x) WX y bytes mL rt rm2 (.ref (xq x 0) :: As) S (a, S1)) (hC : CalV y bytes mL rt RX9 nA) (hlk : Cond.methodLink own idx y ∈ wsL_law0) (hF : Fits rm2 rm mL) (hcR : cs ≤ rm.cells ∧ ss ≤ rm.slots) (hAs : As.length = nA) (hst : st0 = As.reverse ++ .ref (xq x 0) :: st) (hw : (st.map fun v => v.category).sum ≤ 8) (hd : decode cc pc = .ok (.invokevirtual idx, 3)) (hn : pc + 3 = n) (kk : VW x nL Q (LW (xq x) q2 ao (xr x) S1 T fo) cs ss n L (.long a :: st)) : VW x nL Q (LW (xq x) q2 ao (xr x) S T fo) cs ss pc L st0 := by
  obtain ⟨p, l, en, R, s, m, args, below, meth, c, D, q, ar, A⟩ := x
  obtain ⟨hx, hb, hml, hown, hts, hK, hN, hA, hR⟩ := C
  subst hn; subst hR; subst hst
  obtain ⟨hcode, hins, hsel, hini, hyc, hd1, hd2, hd3⟩ := hC
  have hini2 : Cond.initialized y.cls ∈ wsL_law0 := by rw [hyc]; exact hini
  intro H locs ls h hP0 hD0 hS
  have hP : va_P D vwCl ((oRow ao ar fo ++ WM q2 ar T) ++ WX q ar S) H := hP0
  have hD : va_D A ((oRow ao ar fo ++ WM q2 ar T) ++ WX q ar S) := hD0
  have hPc := (P_app hP).2
  have hDc := (D_app hD).2.1
  have hFc := inA hDc hS hA
  refine va_calll (va_runV (As := As) (rest := st) ⟨hx, hb, hml, hown, hts⟩ (hM H.size) ⟨callB_of nA hts (good_X hcode) rfl hF.1 hF.2.1 (hts _ (in_bigX _ hini2)) (hts _ (in_bigX _ hlk)) ⟨hd1, hd2, hd3⟩ hF.2.2, hts _ (in_bigX _ hins), hts _ (in_bigX _ hsel)⟩ ⟨Pre.blind, va_recv hK hPc (ci := 9) (q0 := 0) rfl (oX9 q ar S), fun U hU hW => ⟨rfl, by rw [hU], by rw [hU]; exact hPc, va_K.moved hW.alike hK, hDc.weaken (fun _ _ _ _ => trivial), hN.warm hW⟩⟩ rfl hAs h.1 rfl (lv_room hw) hd hcR) hS (fun a _ ha => hFc a ha) hFc (fun r u t H1 locs1 ht hvm hw2 hB hz hk hS1 => ?_)
  obtain ⟨rfl, rfl⟩ := hw2
  rw [ht] at hB
  obtain ⟨hP2, hD2⟩ := join_app hP hD hk hFc hB (va_D_adr (adrX q ar S _) hDc.self)
  exact kk H1 locs1 ls h hP2 hD2 hS1
theorem u_callXV (C : CxG x cc own nL rm) {y : MethodName} {bytes : ByteArray} {mL nA idx : Nat} {rt : Option FieldType} {rm2 : Room} {As : List Value} (hM : MetV (xl x) (xD x) (xq x) (xr x) WX y bytes mL rt rm2 (.ref (xq x 0) :: As) S S1) (hC : CalV y bytes mL rt RX9 nA) (hlk : Cond.methodLink own idx y ∈ wsL_law0) (hF : Fits rm2 rm mL) (hcR : cs ≤ rm.cells ∧ ss ≤ rm.slots) (hAs : As.length = nA) (hst : st0 = As.reverse ++ .ref (xq x 0) :: st) (hw : (st.map fun v => v.category).sum ≤ 8) (hd : decode cc pc = .ok (.invokevirtual idx, 3)) (hn : pc + 3 = n) (kk : VW x nL Q (LW (xq x) q2 ao (xr x) S1 T fo) cs ss n L (st)) : VW x nL Q (LW (xq x) q2 ao (xr x) S T fo) cs ss pc L st0 := by
  obtain ⟨p, l, en, R, s, m, args, below, meth, c, D, q, ar, A⟩ := x
  obtain ⟨hx, hb, hml, hown, hts, hK, hN, hA, hR⟩ := C
  subst hn; subst hR; subst hst
  obtain ⟨hcode, hins, hsel, hini, hyc, hd1, hd2, hd3⟩ := hC
  have hini2 : Cond.initialized y.cls ∈ wsL_law0 := by rw [hyc]; exact hini
  intro H locs ls h hP0 hD0 hS
  have hP : va_P D vwCl ((oRow ao ar fo ++ WM q2 ar T) ++ WX q ar S) H := hP0
  have hD : va_D A ((oRow ao ar fo ++ WM q2 ar T) ++ WX q ar S) := hD0
  have hPc := (P_app hP).2
  have hDc := (D_app hD).2.1
  have hFc := inA hDc hS hA
  refine va_callv (va_runV (As := As) (rest := st) ⟨hx, hb, hml, hown, hts⟩ (hM H.size) ⟨callB_of nA hts (good_X hcode) rfl hF.1 hF.2.1 (hts _ (in_bigX _ hini2)) (hts _ (in_bigX _ hlk)) ⟨hd1, hd2, hd3⟩ hF.2.2, hts _ (in_bigX _ hins), hts _ (in_bigX _ hsel)⟩ ⟨Pre.blind, va_recv hK hPc (ci := 9) (q0 := 0) rfl (oX9 q ar S), fun U hU hW => ⟨rfl, by rw [hU], by rw [hU]; exact hPc, va_K.moved hW.alike hK, hDc.weaken (fun _ _ _ _ => trivial), hN.warm hW⟩⟩ rfl hAs h.1 rfl (lv_room hw) hd hcR) hS (fun a _ ha => hFc a ha) hFc (fun u t H1 locs1 ht hvm hw2 hB hz hk hS1 => ?_)
  obtain rfl := hw2
  rw [ht] at hB
  obtain ⟨hP2, hD2⟩ := join_app hP hD hk hFc hB (va_D_adr (adrX q ar S _) hDc.self)
  exact kk H1 locs1 ls h hP2 hD2 hS1
theorem u_callMI (C : CxG x cc own nL rm) {y : MethodName} {bytes : ByteArray} {mL nA idx : Nat} {rt : Option FieldType} {rm2 : Room} {As : List Value} {a : Int32} (hM : MetI (xl x) (xD x) q2 (xr x) WM y bytes mL rt rm2 (.ref (q2 0) :: As) T (a, T1)) (hC : CalV y bytes mL rt RX10 nA) (hlk : Cond.methodLink own idx y ∈ wsL_law0) (hF : Fits rm2 rm mL) (hcR : cs ≤ rm.cells ∧ ss ≤ rm.slots) (hAs : As.length = nA) (hst : st0 = As.reverse ++ .ref (q2 0) :: st) (hw : (st.map fun v => v.category).sum ≤ 8) (hd : decode cc pc = .ok (.invokevirtual idx, 3)) (hn : pc + 3 = n) (kk : VW x nL Q (LW (xq x) q2 ao (xr x) S T1 fo) cs ss n L (.int a :: st)) : VW x nL Q (LW (xq x) q2 ao (xr x) S T fo) cs ss pc L st0 := by
  obtain ⟨p, l, en, R, s, m, args, below, meth, c, D, q, ar, A⟩ := x
  obtain ⟨hx, hb, hml, hown, hts, hK, hN, hA, hR⟩ := C
  subst hn; subst hR; subst hst
  obtain ⟨hcode, hins, hsel, hini, hyc, hd1, hd2, hd3⟩ := hC
  have hini2 : Cond.initialized y.cls ∈ wsL_law0 := by rw [hyc]; exact hini
  intro H locs ls h hP0 hD0 hS
  have hP := P_rot (a := oRow ao ar fo) (b := WM q2 ar T) (c := WX q ar S) hP0
  have hD := D_rot (a := oRow ao ar fo) (b := WM q2 ar T) (c := WX q ar S) hD0
  have hPc := (P_app hP).2
  have hDc := (D_app hD).2.1
  have hFc := inA hDc hS hA
  refine va_calli (va_runV (As := As) (rest := st) ⟨hx, hb, hml, hown, hts⟩ (hM H.size) ⟨callB_of nA hts (good_X hcode) rfl hF.1 hF.2.1 (hts _ (in_bigX _ hini2)) (hts _ (in_bigX _ hlk)) ⟨hd1, hd2, hd3⟩ hF.2.2, hts _ (in_bigX _ hins), hts _ (in_bigX _ hsel)⟩ ⟨Pre.blind, va_recv hK hPc (ci := 10) (q0 := 0) rfl (oX10 q2 ar T), fun U hU hW => ⟨rfl, by rw [hU], by rw [hU]; exact hPc, va_K.moved hW.alike hK, hDc.weaken (fun _ _ _ _ => trivial), hN.warm hW⟩⟩ rfl hAs h.1 rfl (lv_room hw) hd hcR) hS (fun a _ ha => hFc a ha) hFc (fun r u t H1 locs1 ht hvm hw2 hB hz hk hS1 => ?_)
  obtain ⟨rfl, rfl⟩ := hw2
  rw [ht] at hB
  obtain ⟨hP2, hD2⟩ := join_app hP hD hk hFc hB (va_D_adr (adrM q2 ar T _) hDc.self)
  exact kk H1 locs1 ls h (P_rot hP2) (D_rot hD2) hS1
theorem u_callML (C : CxG x cc own nL rm) {y : MethodName} {bytes : ByteArray} {mL nA idx : Nat} {rt : Option FieldType} {rm2 : Room} {As : List Value} {a : Int64} (hM : MetL (xl x) (xD x) q2 (xr x) WM y bytes mL rt rm2 (.ref (q2 0) :: As) T (a, T1)) (hC : CalV y bytes mL rt RX10 nA) (hlk : Cond.methodLink own idx y ∈ wsL_law0) (hF : Fits rm2 rm mL) (hcR : cs ≤ rm.cells ∧ ss ≤ rm.slots) (hAs : As.length = nA) (hst : st0 = As.reverse ++ .ref (q2 0) :: st) (hw : (st.map fun v => v.category).sum ≤ 8) (hd : decode cc pc = .ok (.invokevirtual idx, 3)) (hn : pc + 3 = n) (kk : VW x nL Q (LW (xq x) q2 ao (xr x) S T1 fo) cs ss n L (.long a :: st)) : VW x nL Q (LW (xq x) q2 ao (xr x) S T fo) cs ss pc L st0 := by
  obtain ⟨p, l, en, R, s, m, args, below, meth, c, D, q, ar, A⟩ := x
  obtain ⟨hx, hb, hml, hown, hts, hK, hN, hA, hR⟩ := C
  subst hn; subst hR; subst hst
  obtain ⟨hcode, hins, hsel, hini, hyc, hd1, hd2, hd3⟩ := hC
  have hini2 : Cond.initialized y.cls ∈ wsL_law0 := by rw [hyc]; exact hini
  intro H locs ls h hP0 hD0 hS
  have hP := P_rot (a := oRow ao ar fo) (b := WM q2 ar T) (c := WX q ar S) hP0
  have hD := D_rot (a := oRow ao ar fo) (b := WM q2 ar T) (c := WX q ar S) hD0
  have hPc := (P_app hP).2
  have hDc := (D_app hD).2.1
  have hFc := inA hDc hS hA
  refine va_calll (va_runV (As := As) (rest := st) ⟨hx, hb, hml, hown, hts⟩ (hM H.size) ⟨callB_of nA hts (good_X hcode) rfl hF.1 hF.2.1 (hts _ (in_bigX _ hini2)) (hts _ (in_bigX _ hlk)) ⟨hd1, hd2, hd3⟩ hF.2.2, hts _ (in_bigX _ hins), hts _ (in_bigX _ hsel)⟩ ⟨Pre.blind, va_recv hK hPc (ci := 10) (q0 := 0) rfl (oX10 q2 ar T), fun U hU hW => ⟨rfl, by rw [hU], by rw [hU]; exact hPc, va_K.moved hW.alike hK, hDc.weaken (fun _ _ _ _ => trivial), hN.warm hW⟩⟩ rfl hAs h.1 rfl (lv_room hw) hd hcR) hS (fun a _ ha => hFc a ha) hFc (fun r u t H1 locs1 ht hvm hw2 hB hz hk hS1 => ?_)
  obtain ⟨rfl, rfl⟩ := hw2
  rw [ht] at hB
  obtain ⟨hP2, hD2⟩ := join_app hP hD hk hFc hB (va_D_adr (adrM q2 ar T _) hDc.self)
  exact kk H1 locs1 ls h (P_rot hP2) (D_rot hD2) hS1
theorem u_callMV (C : CxG x cc own nL rm) {y : MethodName} {bytes : ByteArray} {mL nA idx : Nat} {rt : Option FieldType} {rm2 : Room} {As : List Value} (hM : MetV (xl x) (xD x) q2 (xr x) WM y bytes mL rt rm2 (.ref (q2 0) :: As) T T1) (hC : CalV y bytes mL rt RX10 nA) (hlk : Cond.methodLink own idx y ∈ wsL_law0) (hF : Fits rm2 rm mL) (hcR : cs ≤ rm.cells ∧ ss ≤ rm.slots) (hAs : As.length = nA) (hst : st0 = As.reverse ++ .ref (q2 0) :: st) (hw : (st.map fun v => v.category).sum ≤ 8) (hd : decode cc pc = .ok (.invokevirtual idx, 3)) (hn : pc + 3 = n) (kk : VW x nL Q (LW (xq x) q2 ao (xr x) S T1 fo) cs ss n L (st)) : VW x nL Q (LW (xq x) q2 ao (xr x) S T fo) cs ss pc L st0 := by
  obtain ⟨p, l, en, R, s, m, args, below, meth, c, D, q, ar, A⟩ := x
  obtain ⟨hx, hb, hml, hown, hts, hK, hN, hA, hR⟩ := C
  subst hn; subst hR; subst hst
  obtain ⟨hcode, hins, hsel, hini, hyc, hd1, hd2, hd3⟩ := hC
  have hini2 : Cond.initialized y.cls ∈ wsL_law0 := by rw [hyc]; exact hini
  intro H locs ls h hP0 hD0 hS
  have hP := P_rot (a := oRow ao ar fo) (b := WM q2 ar T) (c := WX q ar S) hP0
  have hD := D_rot (a := oRow ao ar fo) (b := WM q2 ar T) (c := WX q ar S) hD0
  have hPc := (P_app hP).2
  have hDc := (D_app hD).2.1
  have hFc := inA hDc hS hA
  refine va_callv (va_runV (As := As) (rest := st) ⟨hx, hb, hml, hown, hts⟩ (hM H.size) ⟨callB_of nA hts (good_X hcode) rfl hF.1 hF.2.1 (hts _ (in_bigX _ hini2)) (hts _ (in_bigX _ hlk)) ⟨hd1, hd2, hd3⟩ hF.2.2, hts _ (in_bigX _ hins), hts _ (in_bigX _ hsel)⟩ ⟨Pre.blind, va_recv hK hPc (ci := 10) (q0 := 0) rfl (oX10 q2 ar T), fun U hU hW => ⟨rfl, by rw [hU], by rw [hU]; exact hPc, va_K.moved hW.alike hK, hDc.weaken (fun _ _ _ _ => trivial), hN.warm hW⟩⟩ rfl hAs h.1 rfl (lv_room hw) hd hcR) hS (fun a _ ha => hFc a ha) hFc (fun u t H1 locs1 ht hvm hw2 hB hz hk hS1 => ?_)
  obtain rfl := hw2
  rw [ht] at hB
  obtain ⟨hP2, hD2⟩ := join_app hP hD hk hFc hB (va_D_adr (adrM q2 ar T _) hDc.self)
  exact kk H1 locs1 ls h (P_rot hP2) (D_rot hD2) hS1
theorem u_callK (C : CxG x cL_law RL 7 room_1) (hst : (xl x).stackTraces = false) {sa1 sa2 : Nat} {a1 a2 : Int32} {res : (Int32 × Int32) × St} (hXS : match x with | (_, _, _, _, s, _, _, _, _, _, _, _, _, A) => XS A sa1 sa2 s s.heap) (hM : m_X9_look a1 a2 S = some res) (hcR : cs + 1 ≤ 601024 ∧ ss + 6 ≤ 7293033) (hd : decode cL_law pc = .ok (.invokestatic 111, 3)) (hn : pc + 3 = n) (kk : VW x 7 Q (LW (xq x) q2 ao (xr x) res.2 T (if res.1.1 = 0 then vp_updL fo 0 res.1.2.toInt64 else fo)) (cs + 1) (ss + 6) n L (.int res.1.1 :: st)) (hw : (st.map fun v => v.category).sum ≤ 8) : VW x 7 Q (LW (xq x) q2 ao (xr x) S T fo) cs ss pc L (.ref ao :: .int a2 :: .int a1 :: .ref (xq x 0) :: st) := by
  obtain ⟨p, l, en, R, s, m, args, below, meth, c, D, q, ar, A⟩ := x
  obtain ⟨hx, hb, hml, hown, hts, hK, hN, hA, hR⟩ := C
  subst hn; subst hR
  intro H locs ls h hP0 hD0 hS
  have hP := P_r2 (a := oRow ao ar fo) (b := WM q2 ar T) (c := WX q ar S) hP0
  have hD := D_r2 (a := oRow ao ar fo) (b := WM q2 ar T) (c := WX q ar S) hD0
  have hPc := (P_app hP).2
  have hDc := (D_app hD).2.1
  have hFc := inA hDc hS hA
  have hcode : Cond.codeWith yL_look cL_look 5 (some .int) [(0, 10, 13, 13), (0, 10, 17, 15)] ∈ bigX := in_bigX _ w_33_6
  refine vx_calli (AX := fun _ => False) (px := fun _ : Unit => False) (BX := fun _ _ _ => False) (vx_runSX (As := [.ref (q 0), .int a1, .int a2, .ref ao]) (rest := st) ⟨hx, hb, hml, hown, hts⟩ (XC := vx_X (fun _ : Unit => False) (fun _ _ _ => False) (fun _ => False)) (vx_noX (c_L_look hst a1 a2 S hM H.size)) ⟨⟨rfl, rfl, by decide, by decide, pay_in hts (good_bigX hcode), List.mem_cons_self⟩, hts _ hcode, hts _ (in_bigX _ w_33_5), ⟨by decide +kernel, by decide +kernel⟩, fun sig h => ?_, hts _ (in_bigX _ w_33_3), hts _ (in_bigX _ w_33_4)⟩ ⟨PreK.blind, fun U hU hW => ⟨rfl, ⟨by rw [hU], by rw [hU]; exact hPc, va_K.moved hW.alike hK, hDc.weaken (fun _ _ _ _ => trivial), hN.warm hW⟩, hXS.go hW (fun a h1 h2 => by rw [hU]; exact hS.2.1 a h1 h2) hFc⟩⟩ rfl rfl h.1 rfl (lv_room hw) hd hcR) hS (fun a _ ha => hFc a ha) hFc (fun a _ ha => ha.elim) (fun E ce q9 u t H1 locs1 ht hvm hpx => hpx.elim) (fun r u t H1 locs1 ht hvm hpo hB hz hk hS1 => ?_)
  · have e : (parseMethodDescriptor yL_look.desc).map (fun d => d.parameters.length) = some 4 := by decide +kernel
    rw [h] at e
    exact (Option.some.inj e).symm
  · obtain ⟨u1, u2⟩ := u
    obtain ⟨e1, e2, e3⟩ := hpo
    dsimp only at e1 e2 e3 hB
    subst e1; subst e2; subst e3
    rw [ht] at hB
    obtain ⟨hP2, hD2⟩ := join_app hP hD hk hFc hB (D_adr2 hDc.self)
    exact kk H1 locs1 ls h (P_r3 hP2) (D_r3 hD2) hS1
theorem u_sld (C : CxG x cc own nL rm) {b Lh : Nat} {xs : Nat → Int32} {i : Int32} (hX : match x with | (_, _, _, _, s, _, _, _, _, _, _, _, _, A) => va_X b Lh xs s s.heap ∧ b < s.heap.size ∧ ¬ A b) (hin : vp_in i Lh) (hd : decode cc pc = .ok (.iaload, 1)) (hn : pc + 1 = n) (kk : VW x nL Q ws cs ss n L (.int (xs i.toNatClampNeg) :: st)) : VW x nL Q ws cs ss pc L (.int i :: .ref b :: st) := by
  obtain ⟨p, l, en, R, s, m, args, below, meth, c, D, q, ar, A⟩ := x
  obtain ⟨hx, hb, hml, hown, hts, hK, hN, hA, hR⟩ := C
  subst hn
  exact fun H locs ls h hP hD hS => va_sld hx hb hX.1 hX.2.1 hX.2.2 hS hin hd (kk H locs ls h hP hD hS)
theorem u_slen (C : CxG x cc own nL rm) {b Lh : Nat} {xs : Nat → Int32} (hX : match x with | (_, _, _, _, s, _, _, _, _, _, _, _, _, A) => va_X b Lh xs s s.heap ∧ b < s.heap.size ∧ ¬ A b) (hd : decode cc pc = .ok (.arraylength, 1)) (hn : pc + 1 = n) (kk : VW x nL Q ws cs ss n L (.int (nI Lh) :: st)) : VW x nL Q ws cs ss pc L (.ref b :: st) := by
  obtain ⟨p, l, en, R, s, m, args, below, meth, c, D, q, ar, A⟩ := x
  obtain ⟨hx, hb, hml, hown, hts, hK, hN, hA, hR⟩ := C
  subst hn
  exact fun H locs ls h hP hD hS => va_slen hx hb hX.1 hX.2.1 hX.2.2 hS hd (kk H locs ls h hP hD hS)
theorem u_new (C : CxG x cc own nL rm) {ci N idx : Nat} {fs : List Value} {Cn : String} {T : u_T} (hin : ∀ w ∈ u_ws Cn T N, w ∈ wsL_law0) (ty : Nat → FieldType) (hty : ∀ k, k < N → parseFieldDescriptor (T k).2.2.1 = some (ty k)) (hcl : Cond.classLink own idx Cn ∈ wsL_law0) (hinst : Cond.instantiable Cn N ∈ wsL_law0) (hini : Cond.initialized Cn ∈ wsL_law0) (hc : vwCl[ci]? = some (Cn, T, N)) (hfs : ∀ j, j < N → defaultValue (ty j) = vp_V fs j)
    (hd : decode cc pc = .ok (.new idx, 3)) (hcs : cs + 1 = cs') (hss : ss + N = ss') (hcR : cs' ≤ rm.cells) (hsR : ss' ≤ rm.slots) (hn : pc + 3 = n) (kk : ∀ a : Nat, VW x nL Q (ws ++ [(a, .inr (ci, fs))]) cs' ss' n L (.ref a :: st)) : VW x nL Q ws cs ss pc L st := by
  obtain ⟨p, l, en, R, s, m, args, below, meth, c, D, q, ar, A⟩ := x
  obtain ⟨hx, hb, hml, hown, hts, hK, hN, hA, hR⟩ := C
  subst hn; subst hcs; subst hss; subst hR
  intro H locs ls h hP hD hS
  exact va_new hx hb hts (fun w hw => in_bigX w (hin w hw)) ty hty hown (hts _ (in_bigX _ hcl)) (hts _ (in_bigX _ hinst)) (hts _ (in_bigX _ hini)) hK hP hD hS hA hc hfs hcR hsR hd (fun b H1 hP1 hD1 hS1 => kk b H1 locs ls h hP1 hD1 hS1)
theorem u_newJ (C : CxG x cc own nL rm) {v : Int32} {N : Nat} (hw : Cond.arrayClass .long ∈ wsL_law0) (hd : decode cc pc = .ok (.newarray .long, 2)) (hv : ¬ v < 0) (hNv : v.toNatClampNeg = N) (hby : N * 8 ≤ 536870912) (hc : cs + 1 = cs') (hs : ss + N = ss') (hcR : cs' ≤ rm.cells) (hsR : ss' ≤ rm.slots) (hn : pc + 2 = n)
    (kk : ∀ a : Nat, VW x nL Q (ws ++ [(a, .inl ((xr x).2.2, N, .inr (.inl (fun _ => 0))))]) cs' ss' n L (.ref a :: st)) : VW x nL Q ws cs ss pc L (.int v :: st) := by
  obtain ⟨p, l, en, R, s, m, args, below, meth, c, D, q, ar, A⟩ := x
  obtain ⟨hx, hb, hml, hown, hts, hK, hN, hA, hR⟩ := C
  subst hn; subst hc; subst hs; subst hR
  intro H locs ls h hP hD hS
  refine va_newa (atype := .long) (ty := .long) (N' := N) (a0 := (N, .inr (.inl (fun _ => 0)))) hx hb (hts _ (in_bigX _ hw)) rfl hK hP hD hS hA (fun cA => rfl) hv hNv hby hcR hsR hd (fun b cA H1 hK1 hP1 hD1 hS1 => ?_)
  have e1 : s.vm.findClass _ = some cA := (hK1.2 3 (cA, .long) rfl).2
  have e2 : s.vm.findClass _ = some ar.2.2 := (hK1.2 2 (ar.2.2, .long) rfl).2
  have e3 : cA = ar.2.2 := Option.some.inj (e1.symm.trans e2)
  subst e3
  exact kk b H1 locs ls h hP1 hD1 hS1
theorem u_ctor (C : CxG x cc own nL rm) {wr wc : va_W} {y : MethodName} {bytes : ByteArray} {mL idx b mc ms : Nat} {rm2 : Room} {W1 : (Nat → Nat) → va_W} (hM : MetC (xl x) (xD x) (xr x) y bytes mL rm2 [.ref b] wc W1 mc ms) (hcode : Cond.code y bytes mL none ∈ wsL_law0) (hinm : Cond.instanceMethod y ∈ wsL_law0) (hini : Cond.initialized y.cls ∈ wsL_law0) (hy1 : y.name = "<init>") (hyd : y.cls ≠ "java/lang/invoke/MethodHandle" ∧ y.cls ≠ "java/lang/invoke/VarHandle" ∧ (parseMethodDescriptor y.desc).map (fun d => d.parameters.length) = some 0)
    (hlk : Cond.methodLink own idx y ∈ wsL_law0) (hF : rm2.cells = mc ∧ rm2.slots = ms ∧ rm2.frames + 1 ≤ rm.frames ∧ 8 + (mL + 11) + rm2.locals ≤ rm.locals) (hcs : cs + mc = cs') (hss : ss + ms = ss') (hcR : cs' ≤ rm.cells) (hsR : ss' ≤ rm.slots) (hw : (st.map fun v => v.category).sum ≤ 8) (hd : decode cc pc = .ok (.invokespecial idx, 3)) (hn : pc + 3 = n) (kk : ∀ u : Nat → Nat, VW x nL Q (wr ++ W1 u) cs' ss' n L st) : VW x nL Q (wr ++ wc) cs ss pc L (.ref b :: st) := by
  obtain ⟨p, l, en, R, s, m, args, below, meth, c, D, q, ar, A⟩ := x
  obtain ⟨hx, hb, hml, hown, hts, hK, hN, hA, hR⟩ := C
  subst hn; subst hcs; subst hss; subst hR
  intro H locs ls h hP hD hS
  have hPc := (P_app hP).2
  have hDc := (D_app hD).2.1
  have hFc := inA hDc hS hA
  refine va_callv (va_runI (As := []) (rest := st) ⟨hx, hb, hml, hown, hts⟩ (hM H.size) ⟨callB_of 0 hts (good_X hcode) rfl hF.1 hF.2.1 (hts _ (in_bigX _ hini)) (hts _ (in_bigX _ hlk)) hyd hF.2.2, hy1, hts _ (in_bigX _ hinm)⟩ ⟨PreW.blind, fun U hU hW => ⟨rfl, by rw [hU], by rw [hU]; exact hPc, va_K.moved hW.alike hK, hDc.weaken (fun _ _ _ _ => trivial), hN.warm hW⟩⟩ rfl rfl h.1 rfl (lv_room hw) hd ⟨hcR, hsR⟩) hS (fun a _ ha => hFc a ha) hFc (fun u t H1 locs1 ht hvm hw2 hB hz hk hS1 => ?_)
  obtain ⟨hP1, hD1⟩ := hB
  rw [ht] at hP1
  obtain ⟨hP2, hD2⟩ := join_app hP hD hk hFc hP1 hD1
  exact kk u H1 locs1 ls h hP2 hD2 hS1
end LawCalls2
def St_feed (Rel : St → St → Prop) : Prop := ∀ (a1 a2 a3 a4 a5 : Int32) (S T : St), Rel S T → ∃ (r : Int32) (S1 T1 : St), m_X9_feed a1 a2 a3 a4 a5 S = some (r, S1) ∧ m_X10_feed a1 a2 a3 a4 a5 T = some (r, T1) ∧ Rel S1 T1
def St_rules (Rel : St → St → Prop) : Prop := ∀ (a1 : Int32) (S T : St), Rel S T → ∃ (r : Int32) (S1 T1 : St), m_X9_rules a1 S = some (r, S1) ∧ m_X10_rules a1 T = some (r, T1) ∧ Rel S1 T1
def St_fault (Rel : St → St → Prop) : Prop := ∀ (a1 : Int32) (S T : St), Rel S T → ∃ (r : Int32) (S1 T1 : St), m_X9_fault a1 S = some (r, S1) ∧ m_X10_fault a1 T = some (r, T1) ∧ Rel S1 T1
def St_anew (Rel : St → St → Prop) : Prop := ∀ (S T : St), Rel S T → ∃ (S1 T1 : St), m_X9_anew S = some S1 ∧ m_X10_anew T = some T1 ∧ Rel S1 T1
def St_junction (Rel : St → St → Prop) : Prop := ∀ (a1 : Int32) (S T : St) (_ : a1 = 0 ∨ a1 = 1), Rel S T → ∃ (r : Int32) (S1 T1 : St), m_X9_junction a1 S = some (r, S1) ∧ m_X10_junction a1 T = some (r, T1) ∧ Rel S1 T1
def St_path (Rel : St → St → Prop) : Prop := ∀ (a1 a2 : Int32) (S T : St), Rel S T → ∃ (r : Int32) (S1 T1 : St), m_X9_path a1 a2 S = some (r, S1) ∧ m_X10_path a1 a2 T = some (r, T1) ∧ Rel S1 T1
def St_mark (Rel : St → St → Prop) : Prop := ∀ (a1 a2 : Int32) (S T : St) (_ : a2 = 0 ∨ a2 = 1), Rel S T → ∃ (r : Int32) (S1 T1 : St), m_X9_mark a1 a2 S = some (r, S1) ∧ m_X10_mark a1 a2 T = some (r, T1) ∧ Rel S1 T1
def St_period (Rel : St → St → Prop) : Prop := ∀ (a1 : Int32) (S T : St), Rel S T → ∃ (r : Int32) (S1 T1 : St), m_X9_period a1 S = some (r, S1) ∧ m_X10_period a1 T = some (r, T1) ∧ Rel S1 T1
def St_gate (Rel : St → St → Prop) : Prop := ∀ (a1 a2 : Int32) (S T : St), Rel S T → ∃ (r : Int32) (S1 T1 : St), m_X9_gate a1 a2 S = some (r, S1) ∧ m_X10_gate a1 a2 T = some (r, T1) ∧ Rel S1 T1
def St_shut (Rel : St → St → Prop) : Prop := ∀ (a1 a2 : Int32) (S T : St) (_ : a2 = 0 ∨ a2 = 1), Rel S T → ∃ (r : Int32) (S1 T1 : St), m_X9_shut a1 a2 S = some (r, S1) ∧ m_X10_shut a1 a2 T = some (r, T1) ∧ Rel S1 T1
def St_place (Rel : St → St → Prop) : Prop := ∀ (a1 a2 : Int32) (S T : St), Rel S T → ∃ (r : Int32) (S1 T1 : St), m_X9_place a1 a2 S = some (r, S1) ∧ m_X10_place a1 a2 T = some (r, T1) ∧ Rel S1 T1
def St_walk (Rel : St → St → Prop) : Prop := ∀ (a1 : Int32) (S T : St), Rel S T → ∃ (r : Int32) (S1 T1 : St), m_X9_walk a1 S = some (r, S1) ∧ m_X10_walk a1 T = some (r, T1) ∧ Rel S1 T1
def St_walked (Rel : St → St → Prop) : Prop := ∀ (a1 : Int32) (S T : St), Rel S T → ∃ (r : Int32) (S1 T1 : St), m_X9_walked a1 S = some (r, S1) ∧ m_X10_walked a1 T = some (r, T1) ∧ Rel S1 T1
def St_lost (Rel : St → St → Prop) : Prop := ∀ (S T : St), Rel S T → ∃ (r : Int64) (S1 T1 : St), m_X9_lost  S = some (r, S1) ∧ m_X10_lost  T = some (r, T1) ∧ Rel S1 T1
def St_help (Rel : St → St → Prop) : Prop := ∀ (a1 : Int32) (S T : St), Rel S T → ∃ (r : Int32) (S1 T1 : St), m_X9_help a1 S = some (r, S1) ∧ m_X10_help a1 T = some (r, T1) ∧ Rel S1 T1
def St_helped (Rel : St → St → Prop) : Prop := ∀ (a1 : Int32) (S T : St), Rel S T → ∃ (r : Int32) (S1 T1 : St), m_X9_helped a1 S = some (r, S1) ∧ m_X10_helped a1 T = some (r, T1) ∧ Rel S1 T1
def St_tale (Rel : St → St → Prop) : Prop := ∀ (a1 : Int32) (S T : St), Rel S T → ∃ (r : Int64) (S1 T1 : St), m_X9_tale a1 S = some (r, S1) ∧ m_X10_tale a1 T = some (r, T1) ∧ Rel S1 T1
def St_turn (Rel : St → St → Prop) : Prop := ∀ (a1 a2 : Int32) (S T : St), Rel S T → ∃ (r : Int64) (S1 T1 : St), m_X9_turn a1 a2 S = some (r, S1) ∧ m_X10_turn a1 a2 T = some (r, T1) ∧ Rel S1 T1
def St_home (Rel : St → St → Prop) : Prop := ∀ (S T : St), Rel S T → ∃ (r : Int32) (S1 T1 : St), m_X9_home  S = some (r, S1) ∧ m_X10_home  T = some (r, T1) ∧ Rel S1 T1
def St_homing (Rel : St → St → Prop) : Prop := ∀ (a1 : Int32) (S T : St), Rel S T → ∃ (r : Int32) (S1 T1 : St), m_X9_homing a1 S = some (r, S1) ∧ m_X10_homing a1 T = some (r, T1) ∧ Rel S1 T1
def St_look (Rel : St → St → Prop) : Prop := ∀ (a1 a2 : Int32) (S T : St), Rel S T → ∃ (kv : Int32 × Int32) (S1 : St) (b : Int32) (T1 T2 : St), m_X9_look a1 a2 S = some (kv, S1) ∧ m_X10_look a1 a2 T = some (b, T1) ∧ m_X10_thrown T1 = some (kv.1, T2) ∧ (kv.1 = 0 → kv.2 = b) ∧ Rel S1 T2
def St_count (Rel : St → St → Prop) : Prop := ∀ (a1 : Int32) (S T : St), Rel S T → ∃ (r : Int32) (S1 T1 : St), m_X9_count a1 S = some (r, S1) ∧ m_X10_count a1 T = some (r, T1) ∧ Rel S1 T1
def StepAll (Rel : St → St → Prop) : Prop := St_feed Rel ∧ St_rules Rel ∧ St_fault Rel ∧ St_anew Rel ∧ St_junction Rel ∧ St_path Rel ∧ St_mark Rel ∧ St_period Rel ∧ St_gate Rel ∧ St_shut Rel ∧ St_place Rel ∧ St_walk Rel ∧ St_walked Rel ∧ St_lost Rel ∧ St_help Rel ∧ St_helped Rel ∧ St_tale Rel ∧ St_turn Rel ∧ St_home Rel ∧ St_homing Rel ∧ St_look Rel ∧ St_count Rel
theorem nz01 (w : Int32) : nz w = 0 ∨ nz w = 1 := by
  unfold nz
  by_cases h : w = 0
  · rw [if_pos h]; exact Or.inl rfl
  · rw [if_neg h]; exact Or.inr rfl
theorem lg_self {a b : Int64} (h : a = b) : lg_cmp a b = 0 := by
  subst h
  unfold lg_cmp
  rw [if_neg Int64.lt_irrefl, if_pos rfl]
theorem look_eq {kv : Int32 × Int32} {fo : Nat → Int64} {bb : Int32} (c0 : kv.1 = 0) (e4 : kv.1 = 0 → kv.2 = bb) : (if kv.1 = 0 then vp_updL fo 0 kv.2.toInt64 else fo) 0 = bb.toInt64 := by
  rw [if_pos c0, e4 c0]
  rfl
set_option maxRecDepth 20000 in
set_option maxHeartbeats 2000000 in
theorem lc_feed {x : Ctx} (C : CxG x cL_law RL 7 room_1) {Rel : St → St → Prop} {b Lh : Nat} {xs : Nat → Int32} (hX : match x with | (_, _, _, _, s, _, _, _, _, _, _, _, _, A) => va_X b Lh xs s s.heap ∧ b < s.heap.size ∧ ¬ A b) {Q : State → Prop} {q2 : Nat → Nat} {ao cs ss : Nat} (hcR : cs + 1 ≤ 601024 ∧ ss + 6 ≤ 7293033) {S T : St} {fo : Nat → Int64} {i4 : Int32} (hi1 : vp_in (i4 + 1) Lh) (hi2 : vp_in (i4 + 2) Lh) (hi3 : vp_in (i4 + 3) Lh) (hi4 : vp_in (i4 + 4) Lh) (hi5 : vp_in (i4 + 5) Lh) (hR : Rel S T) (hs : St_feed Rel) (kk : ∀ (S1 T1 : St) (f1 : Nat → Int64), Rel S1 T1 → VW x 7 Q (LW (xq x) q2 ao (xr x) S1 T1 f1) (cs + 1) (ss + 6) 870 [(0, .ref b), (1, .ref (xq x 0)), (2, .ref (q2 0)), (3, .ref ao), (4, .int i4)] []) : VW x 7 Q (LW (xq x) q2 ao (xr x) S T fo) cs ss 144 [(0, .ref b), (1, .ref (xq x 0)), (2, .ref (q2 0)), (3, .ref ao), (4, .int i4)] [] := by
  have hc1 : cs ≤ room_1.cells ∧ ss ≤ room_1.slots := ⟨Nat.le_trans (Nat.le_succ _) hcR.1, Nat.le_trans (Nat.le_add_right _ 6) hcR.2⟩
  have hc2 : cs + 1 ≤ room_1.cells ∧ ss + 6 ≤ room_1.slots := hcR
  obtain ⟨r, S1, T1, e1, e2, hR1⟩ := hs (xs (i4 + 1).toNatClampNeg) (xs (i4 + 2).toNatClampNeg) (xs (i4 + 3).toNatClampNeg) (xs (i4 + 4).toNatClampNeg) (xs (i4 + 5).toNatClampNeg) S T  hR
  refine u_aload_n C 1 dL_law_144 rfl rfl (n := 145) rfl ?_
  refine u_aload_n C 0 dL_law_145 rfl rfl (n := 146) rfl ?_
  refine u_iload C 4 dL_law_146 rfl (n := 148) rfl ?_
  refine u_iconst (v := 1) C dL_law_148 (by decide) (n := 149) rfl ?_
  refine u_iadd C dL_law_149 (n := 150) rfl ?_
  refine u_sld C hX hi1 dL_law_150 (n := 151) rfl ?_
  refine u_aload_n C 0 dL_law_151 rfl rfl (n := 152) rfl ?_
  refine u_iload C 4 dL_law_152 rfl (n := 154) rfl ?_
  refine u_iconst (v := 2) C dL_law_154 (by decide) (n := 155) rfl ?_
  refine u_iadd C dL_law_155 (n := 156) rfl ?_
  refine u_sld C hX hi2 dL_law_156 (n := 157) rfl ?_
  refine u_aload_n C 0 dL_law_157 rfl rfl (n := 158) rfl ?_
  refine u_iload C 4 dL_law_158 rfl (n := 160) rfl ?_
  refine u_iconst (v := 3) C dL_law_160 (by decide) (n := 161) rfl ?_
  refine u_iadd C dL_law_161 (n := 162) rfl ?_
  refine u_sld C hX hi3 dL_law_162 (n := 163) rfl ?_
  refine u_aload_n C 0 dL_law_163 rfl rfl (n := 164) rfl ?_
  refine u_iload C 4 dL_law_164 rfl (n := 166) rfl ?_
  refine u_iconst (v := 4) C dL_law_166 (by decide) (n := 167) rfl ?_
  refine u_iadd C dL_law_167 (n := 168) rfl ?_
  refine u_sld C hX hi4 dL_law_168 (n := 169) rfl ?_
  refine u_aload_n C 0 dL_law_169 rfl rfl (n := 170) rfl ?_
  refine u_iload C 4 dL_law_170 rfl (n := 172) rfl ?_
  refine u_iconst (v := 5) C dL_law_172 (by decide) (n := 173) rfl ?_
  refine u_iadd C dL_law_173 (n := 174) rfl ?_
  refine u_sld C hX hi5 dL_law_174 (n := 175) rfl ?_
  refine u_callXI (As := [.int (xs (i4 + 1).toNatClampNeg), .int (xs (i4 + 2).toNatClampNeg), .int (xs (i4 + 3).toNatClampNeg), .int (xs (i4 + 4).toNatClampNeg), .int (xs (i4 + 5).toNatClampNeg)]) C (c_X9_feed (xs (i4 + 1).toNatClampNeg) (xs (i4 + 2).toNatClampNeg) (xs (i4 + 3).toNatClampNeg) (xs (i4 + 4).toNatClampNeg) (xs (i4 + 5).toNatClampNeg) S e1) mf_X9_feed w_8_12 ⟨rfl, rfl, by decide, by decide⟩ hc1 rfl rfl (Nat.le_of_ble_eq_true rfl) dL_law_175 (n := 178) rfl ?_
  refine u_aload_n C 2 dL_law_178 rfl rfl (n := 179) rfl ?_
  refine u_aload_n C 0 dL_law_179 rfl rfl (n := 180) rfl ?_
  refine u_iload C 4 dL_law_180 rfl (n := 182) rfl ?_
  refine u_iconst (v := 1) C dL_law_182 (by decide) (n := 183) rfl ?_
  refine u_iadd C dL_law_183 (n := 184) rfl ?_
  refine u_sld C hX hi1 dL_law_184 (n := 185) rfl ?_
  refine u_aload_n C 0 dL_law_185 rfl rfl (n := 186) rfl ?_
  refine u_iload C 4 dL_law_186 rfl (n := 188) rfl ?_
  refine u_iconst (v := 2) C dL_law_188 (by decide) (n := 189) rfl ?_
  refine u_iadd C dL_law_189 (n := 190) rfl ?_
  refine u_sld C hX hi2 dL_law_190 (n := 191) rfl ?_
  refine u_aload_n C 0 dL_law_191 rfl rfl (n := 192) rfl ?_
  refine u_iload C 4 dL_law_192 rfl (n := 194) rfl ?_
  refine u_iconst (v := 3) C dL_law_194 (by decide) (n := 195) rfl ?_
  refine u_iadd C dL_law_195 (n := 196) rfl ?_
  refine u_sld C hX hi3 dL_law_196 (n := 197) rfl ?_
  refine u_aload_n C 0 dL_law_197 rfl rfl (n := 198) rfl ?_
  refine u_iload C 4 dL_law_198 rfl (n := 200) rfl ?_
  refine u_iconst (v := 4) C dL_law_200 (by decide) (n := 201) rfl ?_
  refine u_iadd C dL_law_201 (n := 202) rfl ?_
  refine u_sld C hX hi4 dL_law_202 (n := 203) rfl ?_
  refine u_aload_n C 0 dL_law_203 rfl rfl (n := 204) rfl ?_
  refine u_iload C 4 dL_law_204 rfl (n := 206) rfl ?_
  refine u_iconst (v := 5) C dL_law_206 (by decide) (n := 207) rfl ?_
  refine u_iadd C dL_law_207 (n := 208) rfl ?_
  refine u_sld C hX hi5 dL_law_208 (n := 209) rfl ?_
  refine u_callMI (As := [.int (xs (i4 + 1).toNatClampNeg), .int (xs (i4 + 2).toNatClampNeg), .int (xs (i4 + 3).toNatClampNeg), .int (xs (i4 + 4).toNatClampNeg), .int (xs (i4 + 5).toNatClampNeg)]) C (c_X10_feed (xs (i4 + 1).toNatClampNeg) (xs (i4 + 2).toNatClampNeg) (xs (i4 + 3).toNatClampNeg) (xs (i4 + 4).toNatClampNeg) (xs (i4 + 5).toNatClampNeg) T e2) mf_X10_feed w_9_1 ⟨rfl, rfl, by decide, by decide⟩ hc1 rfl rfl (Nat.le_of_ble_eq_true rfl) dL_law_209 (n := 212) rfl ?_
  refine u_icmp_eq C dL_law_212 (t := 870) (by decide) (n := 215) rfl (fun _ => ?_) (fun c => absurd rfl c)
  refine u_widen (cs' := cs + 1) (ss' := ss + 6) (by omega) (by omega) ?_
  exact u_sub [0, 1, 2, 3, 4] rfl (kk _ _ _ hR1)
set_option maxRecDepth 20000 in
set_option maxHeartbeats 2000000 in
theorem lc_rules {x : Ctx} (C : CxG x cL_law RL 7 room_1) {Rel : St → St → Prop} {b Lh : Nat} {xs : Nat → Int32} (hX : match x with | (_, _, _, _, s, _, _, _, _, _, _, _, _, A) => va_X b Lh xs s s.heap ∧ b < s.heap.size ∧ ¬ A b) {Q : State → Prop} {q2 : Nat → Nat} {ao cs ss : Nat} (hcR : cs + 1 ≤ 601024 ∧ ss + 6 ≤ 7293033) {S T : St} {fo : Nat → Int64} {i4 : Int32} (hi1 : vp_in (i4 + 1) Lh) (hi2 : vp_in (i4 + 2) Lh) (hi3 : vp_in (i4 + 3) Lh) (hi4 : vp_in (i4 + 4) Lh) (hi5 : vp_in (i4 + 5) Lh) (hR : Rel S T) (hs : St_rules Rel) (kk : ∀ (S1 T1 : St) (f1 : Nat → Int64), Rel S1 T1 → VW x 7 Q (LW (xq x) q2 ao (xr x) S1 T1 f1) (cs + 1) (ss + 6) 870 [(0, .ref b), (1, .ref (xq x 0)), (2, .ref (q2 0)), (3, .ref ao), (4, .int i4)] []) : VW x 7 Q (LW (xq x) q2 ao (xr x) S T fo) cs ss 217 [(0, .ref b), (1, .ref (xq x 0)), (2, .ref (q2 0)), (3, .ref ao), (4, .int i4)] [] := by
  have hc1 : cs ≤ room_1.cells ∧ ss ≤ room_1.slots := ⟨Nat.le_trans (Nat.le_succ _) hcR.1, Nat.le_trans (Nat.le_add_right _ 6) hcR.2⟩
  have hc2 : cs + 1 ≤ room_1.cells ∧ ss + 6 ≤ room_1.slots := hcR
  obtain ⟨r, S1, T1, e1, e2, hR1⟩ := hs (xs (i4 + 1).toNatClampNeg) S T  hR
  refine u_aload_n C 1 dL_law_217 rfl rfl (n := 218) rfl ?_
  refine u_aload_n C 0 dL_law_218 rfl rfl (n := 219) rfl ?_
  refine u_iload C 4 dL_law_219 rfl (n := 221) rfl ?_
  refine u_iconst (v := 1) C dL_law_221 (by decide) (n := 222) rfl ?_
  refine u_iadd C dL_law_222 (n := 223) rfl ?_
  refine u_sld C hX hi1 dL_law_223 (n := 224) rfl ?_
  refine u_callXI (As := [.int (xs (i4 + 1).toNatClampNeg)]) C (c_X9_rules (xs (i4 + 1).toNatClampNeg) S e1) mf_X9_rules w_9_7 ⟨rfl, rfl, by decide, by decide⟩ hc1 rfl rfl (Nat.le_of_ble_eq_true rfl) dL_law_224 (n := 227) rfl ?_
  refine u_aload_n C 2 dL_law_227 rfl rfl (n := 228) rfl ?_
  refine u_aload_n C 0 dL_law_228 rfl rfl (n := 229) rfl ?_
  refine u_iload C 4 dL_law_229 rfl (n := 231) rfl ?_
  refine u_iconst (v := 1) C dL_law_231 (by decide) (n := 232) rfl ?_
  refine u_iadd C dL_law_232 (n := 233) rfl ?_
  refine u_sld C hX hi1 dL_law_233 (n := 234) rfl ?_
  refine u_callMI (As := [.int (xs (i4 + 1).toNatClampNeg)]) C (c_X10_rules (xs (i4 + 1).toNatClampNeg) T e2) mf_X10_rules w_12_10 ⟨rfl, rfl, by decide, by decide⟩ hc1 rfl rfl (Nat.le_of_ble_eq_true rfl) dL_law_234 (n := 237) rfl ?_
  refine u_icmp_eq C dL_law_237 (t := 870) (by decide) (n := 240) rfl (fun _ => ?_) (fun c => absurd rfl c)
  refine u_widen (cs' := cs + 1) (ss' := ss + 6) (by omega) (by omega) ?_
  exact u_sub [0, 1, 2, 3, 4] rfl (kk _ _ _ hR1)
set_option maxRecDepth 20000 in
set_option maxHeartbeats 2000000 in
theorem lc_fault {x : Ctx} (C : CxG x cL_law RL 7 room_1) {Rel : St → St → Prop} {b Lh : Nat} {xs : Nat → Int32} (hX : match x with | (_, _, _, _, s, _, _, _, _, _, _, _, _, A) => va_X b Lh xs s s.heap ∧ b < s.heap.size ∧ ¬ A b) {Q : State → Prop} {q2 : Nat → Nat} {ao cs ss : Nat} (hcR : cs + 1 ≤ 601024 ∧ ss + 6 ≤ 7293033) {S T : St} {fo : Nat → Int64} {i4 : Int32} (hi1 : vp_in (i4 + 1) Lh) (hi2 : vp_in (i4 + 2) Lh) (hi3 : vp_in (i4 + 3) Lh) (hi4 : vp_in (i4 + 4) Lh) (hi5 : vp_in (i4 + 5) Lh) (hR : Rel S T) (hs : St_fault Rel) (kk : ∀ (S1 T1 : St) (f1 : Nat → Int64), Rel S1 T1 → VW x 7 Q (LW (xq x) q2 ao (xr x) S1 T1 f1) (cs + 1) (ss + 6) 870 [(0, .ref b), (1, .ref (xq x 0)), (2, .ref (q2 0)), (3, .ref ao), (4, .int i4)] []) : VW x 7 Q (LW (xq x) q2 ao (xr x) S T fo) cs ss 242 [(0, .ref b), (1, .ref (xq x 0)), (2, .ref (q2 0)), (3, .ref ao), (4, .int i4)] [] := by
  have hc1 : cs ≤ room_1.cells ∧ ss ≤ room_1.slots := ⟨Nat.le_trans (Nat.le_succ _) hcR.1, Nat.le_trans (Nat.le_add_right _ 6) hcR.2⟩
  have hc2 : cs + 1 ≤ room_1.cells ∧ ss + 6 ≤ room_1.slots := hcR
  obtain ⟨r, S1, T1, e1, e2, hR1⟩ := hs (xs (i4 + 1).toNatClampNeg) S T  hR
  refine u_aload_n C 1 dL_law_242 rfl rfl (n := 243) rfl ?_
  refine u_aload_n C 0 dL_law_243 rfl rfl (n := 244) rfl ?_
  refine u_iload C 4 dL_law_244 rfl (n := 246) rfl ?_
  refine u_iconst (v := 1) C dL_law_246 (by decide) (n := 247) rfl ?_
  refine u_iadd C dL_law_247 (n := 248) rfl ?_
  refine u_sld C hX hi1 dL_law_248 (n := 249) rfl ?_
  refine u_callXI (As := [.int (xs (i4 + 1).toNatClampNeg)]) C (c_X9_fault (xs (i4 + 1).toNatClampNeg) S e1) mf_X9_fault w_14_9 ⟨rfl, rfl, by decide, by decide⟩ hc1 rfl rfl (Nat.le_of_ble_eq_true rfl) dL_law_249 (n := 252) rfl ?_
  refine u_aload_n C 2 dL_law_252 rfl rfl (n := 253) rfl ?_
  refine u_aload_n C 0 dL_law_253 rfl rfl (n := 254) rfl ?_
  refine u_iload C 4 dL_law_254 rfl (n := 256) rfl ?_
  refine u_iconst (v := 1) C dL_law_256 (by decide) (n := 257) rfl ?_
  refine u_iadd C dL_law_257 (n := 258) rfl ?_
  refine u_sld C hX hi1 dL_law_258 (n := 259) rfl ?_
  refine u_callMI (As := [.int (xs (i4 + 1).toNatClampNeg)]) C (c_X10_fault (xs (i4 + 1).toNatClampNeg) T e2) mf_X10_fault w_14_14 ⟨rfl, rfl, by decide, by decide⟩ hc1 rfl rfl (Nat.le_of_ble_eq_true rfl) dL_law_259 (n := 262) rfl ?_
  refine u_icmp_eq C dL_law_262 (t := 870) (by decide) (n := 265) rfl (fun _ => ?_) (fun c => absurd rfl c)
  refine u_widen (cs' := cs + 1) (ss' := ss + 6) (by omega) (by omega) ?_
  exact u_sub [0, 1, 2, 3, 4] rfl (kk _ _ _ hR1)
set_option maxRecDepth 20000 in
set_option maxHeartbeats 2000000 in
theorem lc_anew {x : Ctx} (C : CxG x cL_law RL 7 room_1) {Rel : St → St → Prop} {b Lh : Nat} {xs : Nat → Int32} (hX : match x with | (_, _, _, _, s, _, _, _, _, _, _, _, _, A) => va_X b Lh xs s s.heap ∧ b < s.heap.size ∧ ¬ A b) {Q : State → Prop} {q2 : Nat → Nat} {ao cs ss : Nat} (hcR : cs + 1 ≤ 601024 ∧ ss + 6 ≤ 7293033) {S T : St} {fo : Nat → Int64} {i4 : Int32} (hi1 : vp_in (i4 + 1) Lh) (hi2 : vp_in (i4 + 2) Lh) (hi3 : vp_in (i4 + 3) Lh) (hi4 : vp_in (i4 + 4) Lh) (hi5 : vp_in (i4 + 5) Lh) (hR : Rel S T) (hs : St_anew Rel) (kk : ∀ (S1 T1 : St) (f1 : Nat → Int64), Rel S1 T1 → VW x 7 Q (LW (xq x) q2 ao (xr x) S1 T1 f1) (cs + 1) (ss + 6) 870 [(0, .ref b), (1, .ref (xq x 0)), (2, .ref (q2 0)), (3, .ref ao), (4, .int i4)] []) : VW x 7 Q (LW (xq x) q2 ao (xr x) S T fo) cs ss 267 [(0, .ref b), (1, .ref (xq x 0)), (2, .ref (q2 0)), (3, .ref ao), (4, .int i4)] [] := by
  have hc1 : cs ≤ room_1.cells ∧ ss ≤ room_1.slots := ⟨Nat.le_trans (Nat.le_succ _) hcR.1, Nat.le_trans (Nat.le_add_right _ 6) hcR.2⟩
  have hc2 : cs + 1 ≤ room_1.cells ∧ ss + 6 ≤ room_1.slots := hcR
  obtain ⟨S1, T1, e1, e2, hR1⟩ := hs S T hR
  refine u_aload_n C 1 dL_law_267 rfl rfl (n := 268) rfl ?_
  refine u_callXV (As := []) C (c_X9_anew  S e1) mf_X9_anew w_14_18 ⟨rfl, rfl, by decide, by decide⟩ hc1 rfl rfl (Nat.le_of_ble_eq_true rfl) dL_law_268 (n := 271) rfl ?_
  refine u_aload_n C 2 dL_law_271 rfl rfl (n := 272) rfl ?_
  refine u_callMV (As := []) C (c_X10_anew  T e2) mf_X10_anew w_15_6 ⟨rfl, rfl, by decide, by decide⟩ hc1 rfl rfl (Nat.le_of_ble_eq_true rfl) dL_law_272 (n := 275) rfl ?_
  refine u_goto C dL_law_275 (n := 870) (by decide) ?_
  refine u_widen (cs' := cs + 1) (ss' := ss + 6) (by omega) (by omega) ?_
  exact u_sub [0, 1, 2, 3, 4] rfl (kk _ _ _ hR1)
set_option maxRecDepth 20000 in
set_option maxHeartbeats 2000000 in
theorem lc_junction {x : Ctx} (C : CxG x cL_law RL 7 room_1) {Rel : St → St → Prop} {b Lh : Nat} {xs : Nat → Int32} (hX : match x with | (_, _, _, _, s, _, _, _, _, _, _, _, _, A) => va_X b Lh xs s s.heap ∧ b < s.heap.size ∧ ¬ A b) {Q : State → Prop} {q2 : Nat → Nat} {ao cs ss : Nat} (hcR : cs + 1 ≤ 601024 ∧ ss + 6 ≤ 7293033) {S T : St} {fo : Nat → Int64} {i4 : Int32} (hi1 : vp_in (i4 + 1) Lh) (hi2 : vp_in (i4 + 2) Lh) (hi3 : vp_in (i4 + 3) Lh) (hi4 : vp_in (i4 + 4) Lh) (hi5 : vp_in (i4 + 5) Lh) (hR : Rel S T) (hs : St_junction Rel) (kk : ∀ (S1 T1 : St) (f1 : Nat → Int64), Rel S1 T1 → VW x 7 Q (LW (xq x) q2 ao (xr x) S1 T1 f1) (cs + 1) (ss + 6) 870 [(0, .ref b), (1, .ref (xq x 0)), (2, .ref (q2 0)), (3, .ref ao), (4, .int i4)] []) : VW x 7 Q (LW (xq x) q2 ao (xr x) S T fo) cs ss 278 [(0, .ref b), (1, .ref (xq x 0)), (2, .ref (q2 0)), (3, .ref ao), (4, .int i4)] [] := by
  have hc1 : cs ≤ room_1.cells ∧ ss ≤ room_1.slots := ⟨Nat.le_trans (Nat.le_succ _) hcR.1, Nat.le_trans (Nat.le_add_right _ 6) hcR.2⟩
  have hc2 : cs + 1 ≤ room_1.cells ∧ ss + 6 ≤ room_1.slots := hcR
  obtain ⟨r, S1, T1, e1, e2, hR1⟩ := hs (nz (xs (i4 + 1).toNatClampNeg)) S T (nz01 _) hR
  refine u_aload_n C 1 dL_law_278 rfl rfl (n := 279) rfl ?_
  refine u_aload_n C 0 dL_law_279 rfl rfl (n := 280) rfl ?_
  refine u_iload C 4 dL_law_280 rfl (n := 282) rfl ?_
  refine u_iconst (v := 1) C dL_law_282 (by decide) (n := 283) rfl ?_
  refine u_iadd C dL_law_283 (n := 284) rfl ?_
  refine u_sld C hX hi1 dL_law_284 (n := 285) rfl ?_
  refine u_bool C (a := 288) (b := 292) (n := 293) dL_law_285 (by decide) rfl dL_law_288 dL_law_289 (by decide) dL_law_292 rfl ?_
  refine u_callXI (As := [.int (nz (xs (i4 + 1).toNatClampNeg))]) C (c_X9_junction (nz (xs (i4 + 1).toNatClampNeg)) S e1) mf_X9_junction w_15_17 ⟨rfl, rfl, by decide, by decide⟩ hc1 rfl rfl (Nat.le_of_ble_eq_true rfl) dL_law_293 (n := 296) rfl ?_
  refine u_aload_n C 2 dL_law_296 rfl rfl (n := 297) rfl ?_
  refine u_aload_n C 0 dL_law_297 rfl rfl (n := 298) rfl ?_
  refine u_iload C 4 dL_law_298 rfl (n := 300) rfl ?_
  refine u_iconst (v := 1) C dL_law_300 (by decide) (n := 301) rfl ?_
  refine u_iadd C dL_law_301 (n := 302) rfl ?_
  refine u_sld C hX hi1 dL_law_302 (n := 303) rfl ?_
  refine u_bool C (a := 306) (b := 310) (n := 311) dL_law_303 (by decide) rfl dL_law_306 dL_law_307 (by decide) dL_law_310 rfl ?_
  refine u_callMI (As := [.int (nz (xs (i4 + 1).toNatClampNeg))]) C (c_X10_junction (nz (xs (i4 + 1).toNatClampNeg)) T e2) mf_X10_junction w_16_1 ⟨rfl, rfl, by decide, by decide⟩ hc1 rfl rfl (Nat.le_of_ble_eq_true rfl) dL_law_311 (n := 314) rfl ?_
  refine u_icmp_eq C dL_law_314 (t := 870) (by decide) (n := 317) rfl (fun _ => ?_) (fun c => absurd rfl c)
  refine u_widen (cs' := cs + 1) (ss' := ss + 6) (by omega) (by omega) ?_
  exact u_sub [0, 1, 2, 3, 4] rfl (kk _ _ _ hR1)
set_option maxRecDepth 20000 in
set_option maxHeartbeats 2000000 in
theorem lc_path {x : Ctx} (C : CxG x cL_law RL 7 room_1) {Rel : St → St → Prop} {b Lh : Nat} {xs : Nat → Int32} (hX : match x with | (_, _, _, _, s, _, _, _, _, _, _, _, _, A) => va_X b Lh xs s s.heap ∧ b < s.heap.size ∧ ¬ A b) {Q : State → Prop} {q2 : Nat → Nat} {ao cs ss : Nat} (hcR : cs + 1 ≤ 601024 ∧ ss + 6 ≤ 7293033) {S T : St} {fo : Nat → Int64} {i4 : Int32} (hi1 : vp_in (i4 + 1) Lh) (hi2 : vp_in (i4 + 2) Lh) (hi3 : vp_in (i4 + 3) Lh) (hi4 : vp_in (i4 + 4) Lh) (hi5 : vp_in (i4 + 5) Lh) (hR : Rel S T) (hs : St_path Rel) (kk : ∀ (S1 T1 : St) (f1 : Nat → Int64), Rel S1 T1 → VW x 7 Q (LW (xq x) q2 ao (xr x) S1 T1 f1) (cs + 1) (ss + 6) 870 [(0, .ref b), (1, .ref (xq x 0)), (2, .ref (q2 0)), (3, .ref ao), (4, .int i4)] []) : VW x 7 Q (LW (xq x) q2 ao (xr x) S T fo) cs ss 319 [(0, .ref b), (1, .ref (xq x 0)), (2, .ref (q2 0)), (3, .ref ao), (4, .int i4)] [] := by
  have hc1 : cs ≤ room_1.cells ∧ ss ≤ room_1.slots := ⟨Nat.le_trans (Nat.le_succ _) hcR.1, Nat.le_trans (Nat.le_add_right _ 6) hcR.2⟩
  have hc2 : cs + 1 ≤ room_1.cells ∧ ss + 6 ≤ room_1.slots := hcR
  obtain ⟨r, S1, T1, e1, e2, hR1⟩ := hs (xs (i4 + 1).toNatClampNeg) (xs (i4 + 2).toNatClampNeg) S T  hR
  refine u_aload_n C 1 dL_law_319 rfl rfl (n := 320) rfl ?_
  refine u_aload_n C 0 dL_law_320 rfl rfl (n := 321) rfl ?_
  refine u_iload C 4 dL_law_321 rfl (n := 323) rfl ?_
  refine u_iconst (v := 1) C dL_law_323 (by decide) (n := 324) rfl ?_
  refine u_iadd C dL_law_324 (n := 325) rfl ?_
  refine u_sld C hX hi1 dL_law_325 (n := 326) rfl ?_
  refine u_aload_n C 0 dL_law_326 rfl rfl (n := 327) rfl ?_
  refine u_iload C 4 dL_law_327 rfl (n := 329) rfl ?_
  refine u_iconst (v := 2) C dL_law_329 (by decide) (n := 330) rfl ?_
  refine u_iadd C dL_law_330 (n := 331) rfl ?_
  refine u_sld C hX hi2 dL_law_331 (n := 332) rfl ?_
  refine u_callXI (As := [.int (xs (i4 + 1).toNatClampNeg), .int (xs (i4 + 2).toNatClampNeg)]) C (c_X9_path (xs (i4 + 1).toNatClampNeg) (xs (i4 + 2).toNatClampNeg) S e1) mf_X9_path w_16_5 ⟨rfl, rfl, by decide, by decide⟩ hc1 rfl rfl (Nat.le_of_ble_eq_true rfl) dL_law_332 (n := 335) rfl ?_
  refine u_aload_n C 2 dL_law_335 rfl rfl (n := 336) rfl ?_
  refine u_aload_n C 0 dL_law_336 rfl rfl (n := 337) rfl ?_
  refine u_iload C 4 dL_law_337 rfl (n := 339) rfl ?_
  refine u_iconst (v := 1) C dL_law_339 (by decide) (n := 340) rfl ?_
  refine u_iadd C dL_law_340 (n := 341) rfl ?_
  refine u_sld C hX hi1 dL_law_341 (n := 342) rfl ?_
  refine u_aload_n C 0 dL_law_342 rfl rfl (n := 343) rfl ?_
  refine u_iload C 4 dL_law_343 rfl (n := 345) rfl ?_
  refine u_iconst (v := 2) C dL_law_345 (by decide) (n := 346) rfl ?_
  refine u_iadd C dL_law_346 (n := 347) rfl ?_
  refine u_sld C hX hi2 dL_law_347 (n := 348) rfl ?_
  refine u_callMI (As := [.int (xs (i4 + 1).toNatClampNeg), .int (xs (i4 + 2).toNatClampNeg)]) C (c_X10_path (xs (i4 + 1).toNatClampNeg) (xs (i4 + 2).toNatClampNeg) T e2) mf_X10_path w_17_1 ⟨rfl, rfl, by decide, by decide⟩ hc1 rfl rfl (Nat.le_of_ble_eq_true rfl) dL_law_348 (n := 351) rfl ?_
  refine u_icmp_eq C dL_law_351 (t := 870) (by decide) (n := 354) rfl (fun _ => ?_) (fun c => absurd rfl c)
  refine u_widen (cs' := cs + 1) (ss' := ss + 6) (by omega) (by omega) ?_
  exact u_sub [0, 1, 2, 3, 4] rfl (kk _ _ _ hR1)
set_option maxRecDepth 20000 in
set_option maxHeartbeats 2000000 in
theorem lc_mark {x : Ctx} (C : CxG x cL_law RL 7 room_1) {Rel : St → St → Prop} {b Lh : Nat} {xs : Nat → Int32} (hX : match x with | (_, _, _, _, s, _, _, _, _, _, _, _, _, A) => va_X b Lh xs s s.heap ∧ b < s.heap.size ∧ ¬ A b) {Q : State → Prop} {q2 : Nat → Nat} {ao cs ss : Nat} (hcR : cs + 1 ≤ 601024 ∧ ss + 6 ≤ 7293033) {S T : St} {fo : Nat → Int64} {i4 : Int32} (hi1 : vp_in (i4 + 1) Lh) (hi2 : vp_in (i4 + 2) Lh) (hi3 : vp_in (i4 + 3) Lh) (hi4 : vp_in (i4 + 4) Lh) (hi5 : vp_in (i4 + 5) Lh) (hR : Rel S T) (hs : St_mark Rel) (kk : ∀ (S1 T1 : St) (f1 : Nat → Int64), Rel S1 T1 → VW x 7 Q (LW (xq x) q2 ao (xr x) S1 T1 f1) (cs + 1) (ss + 6) 870 [(0, .ref b), (1, .ref (xq x 0)), (2, .ref (q2 0)), (3, .ref ao), (4, .int i4)] []) : VW x 7 Q (LW (xq x) q2 ao (xr x) S T fo) cs ss 356 [(0, .ref b), (1, .ref (xq x 0)), (2, .ref (q2 0)), (3, .ref ao), (4, .int i4)] [] := by
  have hc1 : cs ≤ room_1.cells ∧ ss ≤ room_1.slots := ⟨Nat.le_trans (Nat.le_succ _) hcR.1, Nat.le_trans (Nat.le_add_right _ 6) hcR.2⟩
  have hc2 : cs + 1 ≤ room_1.cells ∧ ss + 6 ≤ room_1.slots := hcR
  obtain ⟨r, S1, T1, e1, e2, hR1⟩ := hs (xs (i4 + 1).toNatClampNeg) (nz (xs (i4 + 2).toNatClampNeg)) S T (nz01 _) hR
  refine u_aload_n C 1 dL_law_356 rfl rfl (n := 357) rfl ?_
  refine u_aload_n C 0 dL_law_357 rfl rfl (n := 358) rfl ?_
  refine u_iload C 4 dL_law_358 rfl (n := 360) rfl ?_
  refine u_iconst (v := 1) C dL_law_360 (by decide) (n := 361) rfl ?_
  refine u_iadd C dL_law_361 (n := 362) rfl ?_
  refine u_sld C hX hi1 dL_law_362 (n := 363) rfl ?_
  refine u_aload_n C 0 dL_law_363 rfl rfl (n := 364) rfl ?_
  refine u_iload C 4 dL_law_364 rfl (n := 366) rfl ?_
  refine u_iconst (v := 2) C dL_law_366 (by decide) (n := 367) rfl ?_
  refine u_iadd C dL_law_367 (n := 368) rfl ?_
  refine u_sld C hX hi2 dL_law_368 (n := 369) rfl ?_
  refine u_bool C (a := 372) (b := 376) (n := 377) dL_law_369 (by decide) rfl dL_law_372 dL_law_373 (by decide) dL_law_376 rfl ?_
  refine u_callXI (As := [.int (xs (i4 + 1).toNatClampNeg), .int (nz (xs (i4 + 2).toNatClampNeg))]) C (c_X9_mark (xs (i4 + 1).toNatClampNeg) (nz (xs (i4 + 2).toNatClampNeg)) S e1) mf_X9_mark w_17_9 ⟨rfl, rfl, by decide, by decide⟩ hc1 rfl rfl (Nat.le_of_ble_eq_true rfl) dL_law_377 (n := 380) rfl ?_
  refine u_aload_n C 2 dL_law_380 rfl rfl (n := 381) rfl ?_
  refine u_aload_n C 0 dL_law_381 rfl rfl (n := 382) rfl ?_
  refine u_iload C 4 dL_law_382 rfl (n := 384) rfl ?_
  refine u_iconst (v := 1) C dL_law_384 (by decide) (n := 385) rfl ?_
  refine u_iadd C dL_law_385 (n := 386) rfl ?_
  refine u_sld C hX hi1 dL_law_386 (n := 387) rfl ?_
  refine u_aload_n C 0 dL_law_387 rfl rfl (n := 388) rfl ?_
  refine u_iload C 4 dL_law_388 rfl (n := 390) rfl ?_
  refine u_iconst (v := 2) C dL_law_390 (by decide) (n := 391) rfl ?_
  refine u_iadd C dL_law_391 (n := 392) rfl ?_
  refine u_sld C hX hi2 dL_law_392 (n := 393) rfl ?_
  refine u_bool C (a := 396) (b := 400) (n := 401) dL_law_393 (by decide) rfl dL_law_396 dL_law_397 (by decide) dL_law_400 rfl ?_
  refine u_callMI (As := [.int (xs (i4 + 1).toNatClampNeg), .int (nz (xs (i4 + 2).toNatClampNeg))]) C (c_X10_mark (xs (i4 + 1).toNatClampNeg) (nz (xs (i4 + 2).toNatClampNeg)) T e2) mf_X10_mark w_17_16 ⟨rfl, rfl, by decide, by decide⟩ hc1 rfl rfl (Nat.le_of_ble_eq_true rfl) dL_law_401 (n := 404) rfl ?_
  refine u_icmp_eq C dL_law_404 (t := 870) (by decide) (n := 407) rfl (fun _ => ?_) (fun c => absurd rfl c)
  refine u_widen (cs' := cs + 1) (ss' := ss + 6) (by omega) (by omega) ?_
  exact u_sub [0, 1, 2, 3, 4] rfl (kk _ _ _ hR1)
set_option maxRecDepth 20000 in
set_option maxHeartbeats 2000000 in
theorem lc_period {x : Ctx} (C : CxG x cL_law RL 7 room_1) {Rel : St → St → Prop} {b Lh : Nat} {xs : Nat → Int32} (hX : match x with | (_, _, _, _, s, _, _, _, _, _, _, _, _, A) => va_X b Lh xs s s.heap ∧ b < s.heap.size ∧ ¬ A b) {Q : State → Prop} {q2 : Nat → Nat} {ao cs ss : Nat} (hcR : cs + 1 ≤ 601024 ∧ ss + 6 ≤ 7293033) {S T : St} {fo : Nat → Int64} {i4 : Int32} (hi1 : vp_in (i4 + 1) Lh) (hi2 : vp_in (i4 + 2) Lh) (hi3 : vp_in (i4 + 3) Lh) (hi4 : vp_in (i4 + 4) Lh) (hi5 : vp_in (i4 + 5) Lh) (hR : Rel S T) (hs : St_period Rel) (kk : ∀ (S1 T1 : St) (f1 : Nat → Int64), Rel S1 T1 → VW x 7 Q (LW (xq x) q2 ao (xr x) S1 T1 f1) (cs + 1) (ss + 6) 870 [(0, .ref b), (1, .ref (xq x 0)), (2, .ref (q2 0)), (3, .ref ao), (4, .int i4)] []) : VW x 7 Q (LW (xq x) q2 ao (xr x) S T fo) cs ss 409 [(0, .ref b), (1, .ref (xq x 0)), (2, .ref (q2 0)), (3, .ref ao), (4, .int i4)] [] := by
  have hc1 : cs ≤ room_1.cells ∧ ss ≤ room_1.slots := ⟨Nat.le_trans (Nat.le_succ _) hcR.1, Nat.le_trans (Nat.le_add_right _ 6) hcR.2⟩
  have hc2 : cs + 1 ≤ room_1.cells ∧ ss + 6 ≤ room_1.slots := hcR
  obtain ⟨r, S1, T1, e1, e2, hR1⟩ := hs (xs (i4 + 1).toNatClampNeg) S T  hR
  refine u_aload_n C 1 dL_law_409 rfl rfl (n := 410) rfl ?_
  refine u_aload_n C 0 dL_law_410 rfl rfl (n := 411) rfl ?_
  refine u_iload C 4 dL_law_411 rfl (n := 413) rfl ?_
  refine u_iconst (v := 1) C dL_law_413 (by decide) (n := 414) rfl ?_
  refine u_iadd C dL_law_414 (n := 415) rfl ?_
  refine u_sld C hX hi1 dL_law_415 (n := 416) rfl ?_
  refine u_callXI (As := [.int (xs (i4 + 1).toNatClampNeg)]) C (c_X9_period (xs (i4 + 1).toNatClampNeg) S e1) mf_X9_period w_17_20 ⟨rfl, rfl, by decide, by decide⟩ hc1 rfl rfl (Nat.le_of_ble_eq_true rfl) dL_law_416 (n := 419) rfl ?_
  refine u_aload_n C 2 dL_law_419 rfl rfl (n := 420) rfl ?_
  refine u_aload_n C 0 dL_law_420 rfl rfl (n := 421) rfl ?_
  refine u_iload C 4 dL_law_421 rfl (n := 423) rfl ?_
  refine u_iconst (v := 1) C dL_law_423 (by decide) (n := 424) rfl ?_
  refine u_iadd C dL_law_424 (n := 425) rfl ?_
  refine u_sld C hX hi1 dL_law_425 (n := 426) rfl ?_
  refine u_callMI (As := [.int (xs (i4 + 1).toNatClampNeg)]) C (c_X10_period (xs (i4 + 1).toNatClampNeg) T e2) mf_X10_period w_18_1 ⟨rfl, rfl, by decide, by decide⟩ hc1 rfl rfl (Nat.le_of_ble_eq_true rfl) dL_law_426 (n := 429) rfl ?_
  refine u_icmp_eq C dL_law_429 (t := 870) (by decide) (n := 432) rfl (fun _ => ?_) (fun c => absurd rfl c)
  refine u_widen (cs' := cs + 1) (ss' := ss + 6) (by omega) (by omega) ?_
  exact u_sub [0, 1, 2, 3, 4] rfl (kk _ _ _ hR1)
set_option maxRecDepth 20000 in
set_option maxHeartbeats 2000000 in
theorem lc_gate {x : Ctx} (C : CxG x cL_law RL 7 room_1) {Rel : St → St → Prop} {b Lh : Nat} {xs : Nat → Int32} (hX : match x with | (_, _, _, _, s, _, _, _, _, _, _, _, _, A) => va_X b Lh xs s s.heap ∧ b < s.heap.size ∧ ¬ A b) {Q : State → Prop} {q2 : Nat → Nat} {ao cs ss : Nat} (hcR : cs + 1 ≤ 601024 ∧ ss + 6 ≤ 7293033) {S T : St} {fo : Nat → Int64} {i4 : Int32} (hi1 : vp_in (i4 + 1) Lh) (hi2 : vp_in (i4 + 2) Lh) (hi3 : vp_in (i4 + 3) Lh) (hi4 : vp_in (i4 + 4) Lh) (hi5 : vp_in (i4 + 5) Lh) (hR : Rel S T) (hs : St_gate Rel) (kk : ∀ (S1 T1 : St) (f1 : Nat → Int64), Rel S1 T1 → VW x 7 Q (LW (xq x) q2 ao (xr x) S1 T1 f1) (cs + 1) (ss + 6) 870 [(0, .ref b), (1, .ref (xq x 0)), (2, .ref (q2 0)), (3, .ref ao), (4, .int i4)] []) : VW x 7 Q (LW (xq x) q2 ao (xr x) S T fo) cs ss 434 [(0, .ref b), (1, .ref (xq x 0)), (2, .ref (q2 0)), (3, .ref ao), (4, .int i4)] [] := by
  have hc1 : cs ≤ room_1.cells ∧ ss ≤ room_1.slots := ⟨Nat.le_trans (Nat.le_succ _) hcR.1, Nat.le_trans (Nat.le_add_right _ 6) hcR.2⟩
  have hc2 : cs + 1 ≤ room_1.cells ∧ ss + 6 ≤ room_1.slots := hcR
  obtain ⟨r, S1, T1, e1, e2, hR1⟩ := hs (xs (i4 + 1).toNatClampNeg) (xs (i4 + 2).toNatClampNeg) S T  hR
  refine u_aload_n C 1 dL_law_434 rfl rfl (n := 435) rfl ?_
  refine u_aload_n C 0 dL_law_435 rfl rfl (n := 436) rfl ?_
  refine u_iload C 4 dL_law_436 rfl (n := 438) rfl ?_
  refine u_iconst (v := 1) C dL_law_438 (by decide) (n := 439) rfl ?_
  refine u_iadd C dL_law_439 (n := 440) rfl ?_
  refine u_sld C hX hi1 dL_law_440 (n := 441) rfl ?_
  refine u_aload_n C 0 dL_law_441 rfl rfl (n := 442) rfl ?_
  refine u_iload C 4 dL_law_442 rfl (n := 444) rfl ?_
  refine u_iconst (v := 2) C dL_law_444 (by decide) (n := 445) rfl ?_
  refine u_iadd C dL_law_445 (n := 446) rfl ?_
  refine u_sld C hX hi2 dL_law_446 (n := 447) rfl ?_
  refine u_callXI (As := [.int (xs (i4 + 1).toNatClampNeg), .int (xs (i4 + 2).toNatClampNeg)]) C (c_X9_gate (xs (i4 + 1).toNatClampNeg) (xs (i4 + 2).toNatClampNeg) S e1) mf_X9_gate w_18_5 ⟨rfl, rfl, by decide, by decide⟩ hc1 rfl rfl (Nat.le_of_ble_eq_true rfl) dL_law_447 (n := 450) rfl ?_
  refine u_aload_n C 2 dL_law_450 rfl rfl (n := 451) rfl ?_
  refine u_aload_n C 0 dL_law_451 rfl rfl (n := 452) rfl ?_
  refine u_iload C 4 dL_law_452 rfl (n := 454) rfl ?_
  refine u_iconst (v := 1) C dL_law_454 (by decide) (n := 455) rfl ?_
  refine u_iadd C dL_law_455 (n := 456) rfl ?_
  refine u_sld C hX hi1 dL_law_456 (n := 457) rfl ?_
  refine u_aload_n C 0 dL_law_457 rfl rfl (n := 458) rfl ?_
  refine u_iload C 4 dL_law_458 rfl (n := 460) rfl ?_
  refine u_iconst (v := 2) C dL_law_460 (by decide) (n := 461) rfl ?_
  refine u_iadd C dL_law_461 (n := 462) rfl ?_
  refine u_sld C hX hi2 dL_law_462 (n := 463) rfl ?_
  refine u_callMI (As := [.int (xs (i4 + 1).toNatClampNeg), .int (xs (i4 + 2).toNatClampNeg)]) C (c_X10_gate (xs (i4 + 1).toNatClampNeg) (xs (i4 + 2).toNatClampNeg) T e2) mf_X10_gate w_18_14 ⟨rfl, rfl, by decide, by decide⟩ hc1 rfl rfl (Nat.le_of_ble_eq_true rfl) dL_law_463 (n := 466) rfl ?_
  refine u_icmp_eq C dL_law_466 (t := 870) (by decide) (n := 469) rfl (fun _ => ?_) (fun c => absurd rfl c)
  refine u_widen (cs' := cs + 1) (ss' := ss + 6) (by omega) (by omega) ?_
  exact u_sub [0, 1, 2, 3, 4] rfl (kk _ _ _ hR1)
set_option maxRecDepth 20000 in
set_option maxHeartbeats 2000000 in
theorem lc_shut {x : Ctx} (C : CxG x cL_law RL 7 room_1) {Rel : St → St → Prop} {b Lh : Nat} {xs : Nat → Int32} (hX : match x with | (_, _, _, _, s, _, _, _, _, _, _, _, _, A) => va_X b Lh xs s s.heap ∧ b < s.heap.size ∧ ¬ A b) {Q : State → Prop} {q2 : Nat → Nat} {ao cs ss : Nat} (hcR : cs + 1 ≤ 601024 ∧ ss + 6 ≤ 7293033) {S T : St} {fo : Nat → Int64} {i4 : Int32} (hi1 : vp_in (i4 + 1) Lh) (hi2 : vp_in (i4 + 2) Lh) (hi3 : vp_in (i4 + 3) Lh) (hi4 : vp_in (i4 + 4) Lh) (hi5 : vp_in (i4 + 5) Lh) (hR : Rel S T) (hs : St_shut Rel) (kk : ∀ (S1 T1 : St) (f1 : Nat → Int64), Rel S1 T1 → VW x 7 Q (LW (xq x) q2 ao (xr x) S1 T1 f1) (cs + 1) (ss + 6) 870 [(0, .ref b), (1, .ref (xq x 0)), (2, .ref (q2 0)), (3, .ref ao), (4, .int i4)] []) : VW x 7 Q (LW (xq x) q2 ao (xr x) S T fo) cs ss 471 [(0, .ref b), (1, .ref (xq x 0)), (2, .ref (q2 0)), (3, .ref ao), (4, .int i4)] [] := by
  have hc1 : cs ≤ room_1.cells ∧ ss ≤ room_1.slots := ⟨Nat.le_trans (Nat.le_succ _) hcR.1, Nat.le_trans (Nat.le_add_right _ 6) hcR.2⟩
  have hc2 : cs + 1 ≤ room_1.cells ∧ ss + 6 ≤ room_1.slots := hcR
  obtain ⟨r, S1, T1, e1, e2, hR1⟩ := hs (xs (i4 + 1).toNatClampNeg) (nz (xs (i4 + 2).toNatClampNeg)) S T (nz01 _) hR
  refine u_aload_n C 1 dL_law_471 rfl rfl (n := 472) rfl ?_
  refine u_aload_n C 0 dL_law_472 rfl rfl (n := 473) rfl ?_
  refine u_iload C 4 dL_law_473 rfl (n := 475) rfl ?_
  refine u_iconst (v := 1) C dL_law_475 (by decide) (n := 476) rfl ?_
  refine u_iadd C dL_law_476 (n := 477) rfl ?_
  refine u_sld C hX hi1 dL_law_477 (n := 478) rfl ?_
  refine u_aload_n C 0 dL_law_478 rfl rfl (n := 479) rfl ?_
  refine u_iload C 4 dL_law_479 rfl (n := 481) rfl ?_
  refine u_iconst (v := 2) C dL_law_481 (by decide) (n := 482) rfl ?_
  refine u_iadd C dL_law_482 (n := 483) rfl ?_
  refine u_sld C hX hi2 dL_law_483 (n := 484) rfl ?_
  refine u_bool C (a := 487) (b := 491) (n := 492) dL_law_484 (by decide) rfl dL_law_487 dL_law_488 (by decide) dL_law_491 rfl ?_
  refine u_callXI (As := [.int (xs (i4 + 1).toNatClampNeg), .int (nz (xs (i4 + 2).toNatClampNeg))]) C (c_X9_shut (xs (i4 + 1).toNatClampNeg) (nz (xs (i4 + 2).toNatClampNeg)) S e1) mf_X9_shut w_18_22 ⟨rfl, rfl, by decide, by decide⟩ hc1 rfl rfl (Nat.le_of_ble_eq_true rfl) dL_law_492 (n := 495) rfl ?_
  refine u_aload_n C 2 dL_law_495 rfl rfl (n := 496) rfl ?_
  refine u_aload_n C 0 dL_law_496 rfl rfl (n := 497) rfl ?_
  refine u_iload C 4 dL_law_497 rfl (n := 499) rfl ?_
  refine u_iconst (v := 1) C dL_law_499 (by decide) (n := 500) rfl ?_
  refine u_iadd C dL_law_500 (n := 501) rfl ?_
  refine u_sld C hX hi1 dL_law_501 (n := 502) rfl ?_
  refine u_aload_n C 0 dL_law_502 rfl rfl (n := 503) rfl ?_
  refine u_iload C 4 dL_law_503 rfl (n := 505) rfl ?_
  refine u_iconst (v := 2) C dL_law_505 (by decide) (n := 506) rfl ?_
  refine u_iadd C dL_law_506 (n := 507) rfl ?_
  refine u_sld C hX hi2 dL_law_507 (n := 508) rfl ?_
  refine u_bool C (a := 511) (b := 515) (n := 516) dL_law_508 (by decide) rfl dL_law_511 dL_law_512 (by decide) dL_law_515 rfl ?_
  refine u_callMI (As := [.int (xs (i4 + 1).toNatClampNeg), .int (nz (xs (i4 + 2).toNatClampNeg))]) C (c_X10_shut (xs (i4 + 1).toNatClampNeg) (nz (xs (i4 + 2).toNatClampNeg)) T e2) mf_X10_shut w_19_3 ⟨rfl, rfl, by decide, by decide⟩ hc1 rfl rfl (Nat.le_of_ble_eq_true rfl) dL_law_516 (n := 519) rfl ?_
  refine u_icmp_eq C dL_law_519 (t := 870) (by decide) (n := 522) rfl (fun _ => ?_) (fun c => absurd rfl c)
  refine u_widen (cs' := cs + 1) (ss' := ss + 6) (by omega) (by omega) ?_
  exact u_sub [0, 1, 2, 3, 4] rfl (kk _ _ _ hR1)
set_option maxRecDepth 20000 in
set_option maxHeartbeats 2000000 in
theorem lc_place {x : Ctx} (C : CxG x cL_law RL 7 room_1) {Rel : St → St → Prop} {b Lh : Nat} {xs : Nat → Int32} (hX : match x with | (_, _, _, _, s, _, _, _, _, _, _, _, _, A) => va_X b Lh xs s s.heap ∧ b < s.heap.size ∧ ¬ A b) {Q : State → Prop} {q2 : Nat → Nat} {ao cs ss : Nat} (hcR : cs + 1 ≤ 601024 ∧ ss + 6 ≤ 7293033) {S T : St} {fo : Nat → Int64} {i4 : Int32} (hi1 : vp_in (i4 + 1) Lh) (hi2 : vp_in (i4 + 2) Lh) (hi3 : vp_in (i4 + 3) Lh) (hi4 : vp_in (i4 + 4) Lh) (hi5 : vp_in (i4 + 5) Lh) (hR : Rel S T) (hs : St_place Rel) (kk : ∀ (S1 T1 : St) (f1 : Nat → Int64), Rel S1 T1 → VW x 7 Q (LW (xq x) q2 ao (xr x) S1 T1 f1) (cs + 1) (ss + 6) 870 [(0, .ref b), (1, .ref (xq x 0)), (2, .ref (q2 0)), (3, .ref ao), (4, .int i4)] []) : VW x 7 Q (LW (xq x) q2 ao (xr x) S T fo) cs ss 524 [(0, .ref b), (1, .ref (xq x 0)), (2, .ref (q2 0)), (3, .ref ao), (4, .int i4)] [] := by
  have hc1 : cs ≤ room_1.cells ∧ ss ≤ room_1.slots := ⟨Nat.le_trans (Nat.le_succ _) hcR.1, Nat.le_trans (Nat.le_add_right _ 6) hcR.2⟩
  have hc2 : cs + 1 ≤ room_1.cells ∧ ss + 6 ≤ room_1.slots := hcR
  obtain ⟨r, S1, T1, e1, e2, hR1⟩ := hs (xs (i4 + 1).toNatClampNeg) (xs (i4 + 2).toNatClampNeg) S T  hR
  refine u_aload_n C 1 dL_law_524 rfl rfl (n := 525) rfl ?_
  refine u_aload_n C 0 dL_law_525 rfl rfl (n := 526) rfl ?_
  refine u_iload C 4 dL_law_526 rfl (n := 528) rfl ?_
  refine u_iconst (v := 1) C dL_law_528 (by decide) (n := 529) rfl ?_
  refine u_iadd C dL_law_529 (n := 530) rfl ?_
  refine u_sld C hX hi1 dL_law_530 (n := 531) rfl ?_
  refine u_aload_n C 0 dL_law_531 rfl rfl (n := 532) rfl ?_
  refine u_iload C 4 dL_law_532 rfl (n := 534) rfl ?_
  refine u_iconst (v := 2) C dL_law_534 (by decide) (n := 535) rfl ?_
  refine u_iadd C dL_law_535 (n := 536) rfl ?_
  refine u_sld C hX hi2 dL_law_536 (n := 537) rfl ?_
  refine u_callXI (As := [.int (xs (i4 + 1).toNatClampNeg), .int (xs (i4 + 2).toNatClampNeg)]) C (c_X9_place (xs (i4 + 1).toNatClampNeg) (xs (i4 + 2).toNatClampNeg) S e1) mf_X9_place w_19_7 ⟨rfl, rfl, by decide, by decide⟩ hc1 rfl rfl (Nat.le_of_ble_eq_true rfl) dL_law_537 (n := 540) rfl ?_
  refine u_aload_n C 2 dL_law_540 rfl rfl (n := 541) rfl ?_
  refine u_aload_n C 0 dL_law_541 rfl rfl (n := 542) rfl ?_
  refine u_iload C 4 dL_law_542 rfl (n := 544) rfl ?_
  refine u_iconst (v := 1) C dL_law_544 (by decide) (n := 545) rfl ?_
  refine u_iadd C dL_law_545 (n := 546) rfl ?_
  refine u_sld C hX hi1 dL_law_546 (n := 547) rfl ?_
  refine u_aload_n C 0 dL_law_547 rfl rfl (n := 548) rfl ?_
  refine u_iload C 4 dL_law_548 rfl (n := 550) rfl ?_
  refine u_iconst (v := 2) C dL_law_550 (by decide) (n := 551) rfl ?_
  refine u_iadd C dL_law_551 (n := 552) rfl ?_
  refine u_sld C hX hi2 dL_law_552 (n := 553) rfl ?_
  refine u_callMI (As := [.int (xs (i4 + 1).toNatClampNeg), .int (xs (i4 + 2).toNatClampNeg)]) C (c_X10_place (xs (i4 + 1).toNatClampNeg) (xs (i4 + 2).toNatClampNeg) T e2) mf_X10_place w_19_15 ⟨rfl, rfl, by decide, by decide⟩ hc1 rfl rfl (Nat.le_of_ble_eq_true rfl) dL_law_553 (n := 556) rfl ?_
  refine u_icmp_eq C dL_law_556 (t := 870) (by decide) (n := 559) rfl (fun _ => ?_) (fun c => absurd rfl c)
  refine u_widen (cs' := cs + 1) (ss' := ss + 6) (by omega) (by omega) ?_
  exact u_sub [0, 1, 2, 3, 4] rfl (kk _ _ _ hR1)
set_option maxRecDepth 20000 in
set_option maxHeartbeats 2000000 in
theorem lc_walk {x : Ctx} (C : CxG x cL_law RL 7 room_1) {Rel : St → St → Prop} {b Lh : Nat} {xs : Nat → Int32} (hX : match x with | (_, _, _, _, s, _, _, _, _, _, _, _, _, A) => va_X b Lh xs s s.heap ∧ b < s.heap.size ∧ ¬ A b) {Q : State → Prop} {q2 : Nat → Nat} {ao cs ss : Nat} (hcR : cs + 1 ≤ 601024 ∧ ss + 6 ≤ 7293033) {S T : St} {fo : Nat → Int64} {i4 : Int32} (hi1 : vp_in (i4 + 1) Lh) (hi2 : vp_in (i4 + 2) Lh) (hi3 : vp_in (i4 + 3) Lh) (hi4 : vp_in (i4 + 4) Lh) (hi5 : vp_in (i4 + 5) Lh) (hR : Rel S T) (hs : St_walk Rel) (kk : ∀ (S1 T1 : St) (f1 : Nat → Int64), Rel S1 T1 → VW x 7 Q (LW (xq x) q2 ao (xr x) S1 T1 f1) (cs + 1) (ss + 6) 870 [(0, .ref b), (1, .ref (xq x 0)), (2, .ref (q2 0)), (3, .ref ao), (4, .int i4)] []) : VW x 7 Q (LW (xq x) q2 ao (xr x) S T fo) cs ss 561 [(0, .ref b), (1, .ref (xq x 0)), (2, .ref (q2 0)), (3, .ref ao), (4, .int i4)] [] := by
  have hc1 : cs ≤ room_1.cells ∧ ss ≤ room_1.slots := ⟨Nat.le_trans (Nat.le_succ _) hcR.1, Nat.le_trans (Nat.le_add_right _ 6) hcR.2⟩
  have hc2 : cs + 1 ≤ room_1.cells ∧ ss + 6 ≤ room_1.slots := hcR
  obtain ⟨r, S1, T1, e1, e2, hR1⟩ := hs (xs (i4 + 1).toNatClampNeg) S T  hR
  refine u_aload_n C 1 dL_law_561 rfl rfl (n := 562) rfl ?_
  refine u_aload_n C 0 dL_law_562 rfl rfl (n := 563) rfl ?_
  refine u_iload C 4 dL_law_563 rfl (n := 565) rfl ?_
  refine u_iconst (v := 1) C dL_law_565 (by decide) (n := 566) rfl ?_
  refine u_iadd C dL_law_566 (n := 567) rfl ?_
  refine u_sld C hX hi1 dL_law_567 (n := 568) rfl ?_
  refine u_callXI (As := [.int (xs (i4 + 1).toNatClampNeg)]) C (c_X9_walk (xs (i4 + 1).toNatClampNeg) S e1) mf_X9_walk w_19_19 ⟨rfl, rfl, by decide, by decide⟩ hc1 rfl rfl (Nat.le_of_ble_eq_true rfl) dL_law_568 (n := 571) rfl ?_
  refine u_aload_n C 2 dL_law_571 rfl rfl (n := 572) rfl ?_
  refine u_aload_n C 0 dL_law_572 rfl rfl (n := 573) rfl ?_
  refine u_iload C 4 dL_law_573 rfl (n := 575) rfl ?_
  refine u_iconst (v := 1) C dL_law_575 (by decide) (n := 576) rfl ?_
  refine u_iadd C dL_law_576 (n := 577) rfl ?_
  refine u_sld C hX hi1 dL_law_577 (n := 578) rfl ?_
  refine u_callMI (As := [.int (xs (i4 + 1).toNatClampNeg)]) C (c_X10_walk (xs (i4 + 1).toNatClampNeg) T e2) mf_X10_walk w_22_15 ⟨rfl, rfl, by decide, by decide⟩ hc1 rfl rfl (Nat.le_of_ble_eq_true rfl) dL_law_578 (n := 581) rfl ?_
  refine u_icmp_eq C dL_law_581 (t := 870) (by decide) (n := 584) rfl (fun _ => ?_) (fun c => absurd rfl c)
  refine u_widen (cs' := cs + 1) (ss' := ss + 6) (by omega) (by omega) ?_
  exact u_sub [0, 1, 2, 3, 4] rfl (kk _ _ _ hR1)
set_option maxRecDepth 20000 in
set_option maxHeartbeats 2000000 in
theorem lc_walked {x : Ctx} (C : CxG x cL_law RL 7 room_1) {Rel : St → St → Prop} {b Lh : Nat} {xs : Nat → Int32} (hX : match x with | (_, _, _, _, s, _, _, _, _, _, _, _, _, A) => va_X b Lh xs s s.heap ∧ b < s.heap.size ∧ ¬ A b) {Q : State → Prop} {q2 : Nat → Nat} {ao cs ss : Nat} (hcR : cs + 1 ≤ 601024 ∧ ss + 6 ≤ 7293033) {S T : St} {fo : Nat → Int64} {i4 : Int32} (hi1 : vp_in (i4 + 1) Lh) (hi2 : vp_in (i4 + 2) Lh) (hi3 : vp_in (i4 + 3) Lh) (hi4 : vp_in (i4 + 4) Lh) (hi5 : vp_in (i4 + 5) Lh) (hR : Rel S T) (hs : St_walked Rel) (kk : ∀ (S1 T1 : St) (f1 : Nat → Int64), Rel S1 T1 → VW x 7 Q (LW (xq x) q2 ao (xr x) S1 T1 f1) (cs + 1) (ss + 6) 870 [(0, .ref b), (1, .ref (xq x 0)), (2, .ref (q2 0)), (3, .ref ao), (4, .int i4)] []) : VW x 7 Q (LW (xq x) q2 ao (xr x) S T fo) cs ss 586 [(0, .ref b), (1, .ref (xq x 0)), (2, .ref (q2 0)), (3, .ref ao), (4, .int i4)] [] := by
  have hc1 : cs ≤ room_1.cells ∧ ss ≤ room_1.slots := ⟨Nat.le_trans (Nat.le_succ _) hcR.1, Nat.le_trans (Nat.le_add_right _ 6) hcR.2⟩
  have hc2 : cs + 1 ≤ room_1.cells ∧ ss + 6 ≤ room_1.slots := hcR
  obtain ⟨r, S1, T1, e1, e2, hR1⟩ := hs (xs (i4 + 1).toNatClampNeg) S T  hR
  refine u_aload_n C 1 dL_law_586 rfl rfl (n := 587) rfl ?_
  refine u_aload_n C 0 dL_law_587 rfl rfl (n := 588) rfl ?_
  refine u_iload C 4 dL_law_588 rfl (n := 590) rfl ?_
  refine u_iconst (v := 1) C dL_law_590 (by decide) (n := 591) rfl ?_
  refine u_iadd C dL_law_591 (n := 592) rfl ?_
  refine u_sld C hX hi1 dL_law_592 (n := 593) rfl ?_
  refine u_callXI (As := [.int (xs (i4 + 1).toNatClampNeg)]) C (c_X9_walked (xs (i4 + 1).toNatClampNeg) S e1) mf_X9_walked w_24_2 ⟨rfl, rfl, by decide, by decide⟩ hc1 rfl rfl (Nat.le_of_ble_eq_true rfl) dL_law_593 (n := 596) rfl ?_
  refine u_aload_n C 2 dL_law_596 rfl rfl (n := 597) rfl ?_
  refine u_aload_n C 0 dL_law_597 rfl rfl (n := 598) rfl ?_
  refine u_iload C 4 dL_law_598 rfl (n := 600) rfl ?_
  refine u_iconst (v := 1) C dL_law_600 (by decide) (n := 601) rfl ?_
  refine u_iadd C dL_law_601 (n := 602) rfl ?_
  refine u_sld C hX hi1 dL_law_602 (n := 603) rfl ?_
  refine u_callMI (As := [.int (xs (i4 + 1).toNatClampNeg)]) C (c_X10_walked (xs (i4 + 1).toNatClampNeg) T e2) mf_X10_walked w_24_7 ⟨rfl, rfl, by decide, by decide⟩ hc1 rfl rfl (Nat.le_of_ble_eq_true rfl) dL_law_603 (n := 606) rfl ?_
  refine u_icmp_eq C dL_law_606 (t := 870) (by decide) (n := 609) rfl (fun _ => ?_) (fun c => absurd rfl c)
  refine u_widen (cs' := cs + 1) (ss' := ss + 6) (by omega) (by omega) ?_
  exact u_sub [0, 1, 2, 3, 4] rfl (kk _ _ _ hR1)
set_option maxRecDepth 20000 in
set_option maxHeartbeats 2000000 in
theorem lc_lost {x : Ctx} (C : CxG x cL_law RL 7 room_1) {Rel : St → St → Prop} {b Lh : Nat} {xs : Nat → Int32} (hX : match x with | (_, _, _, _, s, _, _, _, _, _, _, _, _, A) => va_X b Lh xs s s.heap ∧ b < s.heap.size ∧ ¬ A b) {Q : State → Prop} {q2 : Nat → Nat} {ao cs ss : Nat} (hcR : cs + 1 ≤ 601024 ∧ ss + 6 ≤ 7293033) {S T : St} {fo : Nat → Int64} {i4 : Int32} (hi1 : vp_in (i4 + 1) Lh) (hi2 : vp_in (i4 + 2) Lh) (hi3 : vp_in (i4 + 3) Lh) (hi4 : vp_in (i4 + 4) Lh) (hi5 : vp_in (i4 + 5) Lh) (hR : Rel S T) (hs : St_lost Rel) (kk : ∀ (S1 T1 : St) (f1 : Nat → Int64), Rel S1 T1 → VW x 7 Q (LW (xq x) q2 ao (xr x) S1 T1 f1) (cs + 1) (ss + 6) 870 [(0, .ref b), (1, .ref (xq x 0)), (2, .ref (q2 0)), (3, .ref ao), (4, .int i4)] []) : VW x 7 Q (LW (xq x) q2 ao (xr x) S T fo) cs ss 611 [(0, .ref b), (1, .ref (xq x 0)), (2, .ref (q2 0)), (3, .ref ao), (4, .int i4)] [] := by
  have hc1 : cs ≤ room_1.cells ∧ ss ≤ room_1.slots := ⟨Nat.le_trans (Nat.le_succ _) hcR.1, Nat.le_trans (Nat.le_add_right _ 6) hcR.2⟩
  have hc2 : cs + 1 ≤ room_1.cells ∧ ss + 6 ≤ room_1.slots := hcR
  obtain ⟨r, S1, T1, e1, e2, hR1⟩ := hs  S T  hR
  refine u_aload_n C 1 dL_law_611 rfl rfl (n := 612) rfl ?_
  refine u_callXL (As := []) C (c_X9_lost  S e1) mf_X9_lost w_24_11 ⟨rfl, rfl, by decide, by decide⟩ hc1 rfl rfl (Nat.le_of_ble_eq_true rfl) dL_law_612 (n := 615) rfl ?_
  refine u_aload_n C 2 dL_law_615 rfl rfl (n := 616) rfl ?_
  refine u_callML (As := []) C (c_X10_lost  T e2) mf_X10_lost w_24_17 ⟨rfl, rfl, by decide, by decide⟩ hc1 rfl rfl (Nat.le_of_ble_eq_true rfl) dL_law_616 (n := 619) rfl ?_
  refine u_lcmp C dL_law_619 (n := 620) rfl ?_
  refine u_if_eq C dL_law_620 (t := 870) (by decide) (n := 623) rfl (fun _ => ?_) (fun c => absurd (lg_self rfl) c)
  refine u_widen (cs' := cs + 1) (ss' := ss + 6) (by omega) (by omega) ?_
  exact u_sub [0, 1, 2, 3, 4] rfl (kk _ _ _ hR1)
set_option maxRecDepth 20000 in
set_option maxHeartbeats 2000000 in
theorem lc_help {x : Ctx} (C : CxG x cL_law RL 7 room_1) {Rel : St → St → Prop} {b Lh : Nat} {xs : Nat → Int32} (hX : match x with | (_, _, _, _, s, _, _, _, _, _, _, _, _, A) => va_X b Lh xs s s.heap ∧ b < s.heap.size ∧ ¬ A b) {Q : State → Prop} {q2 : Nat → Nat} {ao cs ss : Nat} (hcR : cs + 1 ≤ 601024 ∧ ss + 6 ≤ 7293033) {S T : St} {fo : Nat → Int64} {i4 : Int32} (hi1 : vp_in (i4 + 1) Lh) (hi2 : vp_in (i4 + 2) Lh) (hi3 : vp_in (i4 + 3) Lh) (hi4 : vp_in (i4 + 4) Lh) (hi5 : vp_in (i4 + 5) Lh) (hR : Rel S T) (hs : St_help Rel) (kk : ∀ (S1 T1 : St) (f1 : Nat → Int64), Rel S1 T1 → VW x 7 Q (LW (xq x) q2 ao (xr x) S1 T1 f1) (cs + 1) (ss + 6) 870 [(0, .ref b), (1, .ref (xq x 0)), (2, .ref (q2 0)), (3, .ref ao), (4, .int i4)] []) : VW x 7 Q (LW (xq x) q2 ao (xr x) S T fo) cs ss 625 [(0, .ref b), (1, .ref (xq x 0)), (2, .ref (q2 0)), (3, .ref ao), (4, .int i4)] [] := by
  have hc1 : cs ≤ room_1.cells ∧ ss ≤ room_1.slots := ⟨Nat.le_trans (Nat.le_succ _) hcR.1, Nat.le_trans (Nat.le_add_right _ 6) hcR.2⟩
  have hc2 : cs + 1 ≤ room_1.cells ∧ ss + 6 ≤ room_1.slots := hcR
  obtain ⟨r, S1, T1, e1, e2, hR1⟩ := hs (xs (i4 + 1).toNatClampNeg) S T  hR
  refine u_aload_n C 1 dL_law_625 rfl rfl (n := 626) rfl ?_
  refine u_aload_n C 0 dL_law_626 rfl rfl (n := 627) rfl ?_
  refine u_iload C 4 dL_law_627 rfl (n := 629) rfl ?_
  refine u_iconst (v := 1) C dL_law_629 (by decide) (n := 630) rfl ?_
  refine u_iadd C dL_law_630 (n := 631) rfl ?_
  refine u_sld C hX hi1 dL_law_631 (n := 632) rfl ?_
  refine u_callXI (As := [.int (xs (i4 + 1).toNatClampNeg)]) C (c_X9_help (xs (i4 + 1).toNatClampNeg) S e1) mf_X9_help w_24_22 ⟨rfl, rfl, by decide, by decide⟩ hc1 rfl rfl (Nat.le_of_ble_eq_true rfl) dL_law_632 (n := 635) rfl ?_
  refine u_aload_n C 2 dL_law_635 rfl rfl (n := 636) rfl ?_
  refine u_aload_n C 0 dL_law_636 rfl rfl (n := 637) rfl ?_
  refine u_iload C 4 dL_law_637 rfl (n := 639) rfl ?_
  refine u_iconst (v := 1) C dL_law_639 (by decide) (n := 640) rfl ?_
  refine u_iadd C dL_law_640 (n := 641) rfl ?_
  refine u_sld C hX hi1 dL_law_641 (n := 642) rfl ?_
  refine u_callMI (As := [.int (xs (i4 + 1).toNatClampNeg)]) C (c_X10_help (xs (i4 + 1).toNatClampNeg) T e2) mf_X10_help w_26_1 ⟨rfl, rfl, by decide, by decide⟩ hc1 rfl rfl (Nat.le_of_ble_eq_true rfl) dL_law_642 (n := 645) rfl ?_
  refine u_icmp_eq C dL_law_645 (t := 870) (by decide) (n := 648) rfl (fun _ => ?_) (fun c => absurd rfl c)
  refine u_widen (cs' := cs + 1) (ss' := ss + 6) (by omega) (by omega) ?_
  exact u_sub [0, 1, 2, 3, 4] rfl (kk _ _ _ hR1)
set_option maxRecDepth 20000 in
set_option maxHeartbeats 2000000 in
theorem lc_helped {x : Ctx} (C : CxG x cL_law RL 7 room_1) {Rel : St → St → Prop} {b Lh : Nat} {xs : Nat → Int32} (hX : match x with | (_, _, _, _, s, _, _, _, _, _, _, _, _, A) => va_X b Lh xs s s.heap ∧ b < s.heap.size ∧ ¬ A b) {Q : State → Prop} {q2 : Nat → Nat} {ao cs ss : Nat} (hcR : cs + 1 ≤ 601024 ∧ ss + 6 ≤ 7293033) {S T : St} {fo : Nat → Int64} {i4 : Int32} (hi1 : vp_in (i4 + 1) Lh) (hi2 : vp_in (i4 + 2) Lh) (hi3 : vp_in (i4 + 3) Lh) (hi4 : vp_in (i4 + 4) Lh) (hi5 : vp_in (i4 + 5) Lh) (hR : Rel S T) (hs : St_helped Rel) (kk : ∀ (S1 T1 : St) (f1 : Nat → Int64), Rel S1 T1 → VW x 7 Q (LW (xq x) q2 ao (xr x) S1 T1 f1) (cs + 1) (ss + 6) 870 [(0, .ref b), (1, .ref (xq x 0)), (2, .ref (q2 0)), (3, .ref ao), (4, .int i4)] []) : VW x 7 Q (LW (xq x) q2 ao (xr x) S T fo) cs ss 650 [(0, .ref b), (1, .ref (xq x 0)), (2, .ref (q2 0)), (3, .ref ao), (4, .int i4)] [] := by
  have hc1 : cs ≤ room_1.cells ∧ ss ≤ room_1.slots := ⟨Nat.le_trans (Nat.le_succ _) hcR.1, Nat.le_trans (Nat.le_add_right _ 6) hcR.2⟩
  have hc2 : cs + 1 ≤ room_1.cells ∧ ss + 6 ≤ room_1.slots := hcR
  obtain ⟨r, S1, T1, e1, e2, hR1⟩ := hs (xs (i4 + 1).toNatClampNeg) S T  hR
  refine u_aload_n C 1 dL_law_650 rfl rfl (n := 651) rfl ?_
  refine u_aload_n C 0 dL_law_651 rfl rfl (n := 652) rfl ?_
  refine u_iload C 4 dL_law_652 rfl (n := 654) rfl ?_
  refine u_iconst (v := 1) C dL_law_654 (by decide) (n := 655) rfl ?_
  refine u_iadd C dL_law_655 (n := 656) rfl ?_
  refine u_sld C hX hi1 dL_law_656 (n := 657) rfl ?_
  refine u_callXI (As := [.int (xs (i4 + 1).toNatClampNeg)]) C (c_X9_helped (xs (i4 + 1).toNatClampNeg) S e1) mf_X9_helped w_26_22 ⟨rfl, rfl, by decide, by decide⟩ hc1 rfl rfl (Nat.le_of_ble_eq_true rfl) dL_law_657 (n := 660) rfl ?_
  refine u_aload_n C 2 dL_law_660 rfl rfl (n := 661) rfl ?_
  refine u_aload_n C 0 dL_law_661 rfl rfl (n := 662) rfl ?_
  refine u_iload C 4 dL_law_662 rfl (n := 664) rfl ?_
  refine u_iconst (v := 1) C dL_law_664 (by decide) (n := 665) rfl ?_
  refine u_iadd C dL_law_665 (n := 666) rfl ?_
  refine u_sld C hX hi1 dL_law_666 (n := 667) rfl ?_
  refine u_callMI (As := [.int (xs (i4 + 1).toNatClampNeg)]) C (c_X10_helped (xs (i4 + 1).toNatClampNeg) T e2) mf_X10_helped w_27_4 ⟨rfl, rfl, by decide, by decide⟩ hc1 rfl rfl (Nat.le_of_ble_eq_true rfl) dL_law_667 (n := 670) rfl ?_
  refine u_icmp_eq C dL_law_670 (t := 870) (by decide) (n := 673) rfl (fun _ => ?_) (fun c => absurd rfl c)
  refine u_widen (cs' := cs + 1) (ss' := ss + 6) (by omega) (by omega) ?_
  exact u_sub [0, 1, 2, 3, 4] rfl (kk _ _ _ hR1)
set_option maxRecDepth 20000 in
set_option maxHeartbeats 2000000 in
theorem lc_tale {x : Ctx} (C : CxG x cL_law RL 7 room_1) {Rel : St → St → Prop} {b Lh : Nat} {xs : Nat → Int32} (hX : match x with | (_, _, _, _, s, _, _, _, _, _, _, _, _, A) => va_X b Lh xs s s.heap ∧ b < s.heap.size ∧ ¬ A b) {Q : State → Prop} {q2 : Nat → Nat} {ao cs ss : Nat} (hcR : cs + 1 ≤ 601024 ∧ ss + 6 ≤ 7293033) {S T : St} {fo : Nat → Int64} {i4 : Int32} (hi1 : vp_in (i4 + 1) Lh) (hi2 : vp_in (i4 + 2) Lh) (hi3 : vp_in (i4 + 3) Lh) (hi4 : vp_in (i4 + 4) Lh) (hi5 : vp_in (i4 + 5) Lh) (hR : Rel S T) (hs : St_tale Rel) (kk : ∀ (S1 T1 : St) (f1 : Nat → Int64), Rel S1 T1 → VW x 7 Q (LW (xq x) q2 ao (xr x) S1 T1 f1) (cs + 1) (ss + 6) 870 [(0, .ref b), (1, .ref (xq x 0)), (2, .ref (q2 0)), (3, .ref ao), (4, .int i4)] []) : VW x 7 Q (LW (xq x) q2 ao (xr x) S T fo) cs ss 675 [(0, .ref b), (1, .ref (xq x 0)), (2, .ref (q2 0)), (3, .ref ao), (4, .int i4)] [] := by
  have hc1 : cs ≤ room_1.cells ∧ ss ≤ room_1.slots := ⟨Nat.le_trans (Nat.le_succ _) hcR.1, Nat.le_trans (Nat.le_add_right _ 6) hcR.2⟩
  have hc2 : cs + 1 ≤ room_1.cells ∧ ss + 6 ≤ room_1.slots := hcR
  obtain ⟨r, S1, T1, e1, e2, hR1⟩ := hs (xs (i4 + 1).toNatClampNeg) S T  hR
  refine u_aload_n C 1 dL_law_675 rfl rfl (n := 676) rfl ?_
  refine u_aload_n C 0 dL_law_676 rfl rfl (n := 677) rfl ?_
  refine u_iload C 4 dL_law_677 rfl (n := 679) rfl ?_
  refine u_iconst (v := 1) C dL_law_679 (by decide) (n := 680) rfl ?_
  refine u_iadd C dL_law_680 (n := 681) rfl ?_
  refine u_sld C hX hi1 dL_law_681 (n := 682) rfl ?_
  refine u_callXL (As := [.int (xs (i4 + 1).toNatClampNeg)]) C (c_X9_tale (xs (i4 + 1).toNatClampNeg) S e1) mf_X9_tale w_27_8 ⟨rfl, rfl, by decide, by decide⟩ hc1 rfl rfl (Nat.le_of_ble_eq_true rfl) dL_law_682 (n := 685) rfl ?_
  refine u_aload_n C 2 dL_law_685 rfl rfl (n := 686) rfl ?_
  refine u_aload_n C 0 dL_law_686 rfl rfl (n := 687) rfl ?_
  refine u_iload C 4 dL_law_687 rfl (n := 689) rfl ?_
  refine u_iconst (v := 1) C dL_law_689 (by decide) (n := 690) rfl ?_
  refine u_iadd C dL_law_690 (n := 691) rfl ?_
  refine u_sld C hX hi1 dL_law_691 (n := 692) rfl ?_
  refine u_callML (As := [.int (xs (i4 + 1).toNatClampNeg)]) C (c_X10_tale (xs (i4 + 1).toNatClampNeg) T e2) mf_X10_tale w_28_4 ⟨rfl, rfl, by decide, by decide⟩ hc1 rfl rfl (Nat.le_of_ble_eq_true rfl) dL_law_692 (n := 695) rfl ?_
  refine u_lcmp C dL_law_695 (n := 696) rfl ?_
  refine u_if_eq C dL_law_696 (t := 870) (by decide) (n := 699) rfl (fun _ => ?_) (fun c => absurd (lg_self rfl) c)
  refine u_widen (cs' := cs + 1) (ss' := ss + 6) (by omega) (by omega) ?_
  exact u_sub [0, 1, 2, 3, 4] rfl (kk _ _ _ hR1)
set_option maxRecDepth 20000 in
set_option maxHeartbeats 2000000 in
theorem lc_turn {x : Ctx} (C : CxG x cL_law RL 7 room_1) {Rel : St → St → Prop} {b Lh : Nat} {xs : Nat → Int32} (hX : match x with | (_, _, _, _, s, _, _, _, _, _, _, _, _, A) => va_X b Lh xs s s.heap ∧ b < s.heap.size ∧ ¬ A b) {Q : State → Prop} {q2 : Nat → Nat} {ao cs ss : Nat} (hcR : cs + 1 ≤ 601024 ∧ ss + 6 ≤ 7293033) {S T : St} {fo : Nat → Int64} {i4 : Int32} (hi1 : vp_in (i4 + 1) Lh) (hi2 : vp_in (i4 + 2) Lh) (hi3 : vp_in (i4 + 3) Lh) (hi4 : vp_in (i4 + 4) Lh) (hi5 : vp_in (i4 + 5) Lh) (hR : Rel S T) (hs : St_turn Rel) (kk : ∀ (S1 T1 : St) (f1 : Nat → Int64), Rel S1 T1 → VW x 7 Q (LW (xq x) q2 ao (xr x) S1 T1 f1) (cs + 1) (ss + 6) 870 [(0, .ref b), (1, .ref (xq x 0)), (2, .ref (q2 0)), (3, .ref ao), (4, .int i4)] []) : VW x 7 Q (LW (xq x) q2 ao (xr x) S T fo) cs ss 701 [(0, .ref b), (1, .ref (xq x 0)), (2, .ref (q2 0)), (3, .ref ao), (4, .int i4)] [] := by
  have hc1 : cs ≤ room_1.cells ∧ ss ≤ room_1.slots := ⟨Nat.le_trans (Nat.le_succ _) hcR.1, Nat.le_trans (Nat.le_add_right _ 6) hcR.2⟩
  have hc2 : cs + 1 ≤ room_1.cells ∧ ss + 6 ≤ room_1.slots := hcR
  obtain ⟨r, S1, T1, e1, e2, hR1⟩ := hs (xs (i4 + 1).toNatClampNeg) (xs (i4 + 2).toNatClampNeg) S T  hR
  refine u_aload_n C 1 dL_law_701 rfl rfl (n := 702) rfl ?_
  refine u_aload_n C 0 dL_law_702 rfl rfl (n := 703) rfl ?_
  refine u_iload C 4 dL_law_703 rfl (n := 705) rfl ?_
  refine u_iconst (v := 1) C dL_law_705 (by decide) (n := 706) rfl ?_
  refine u_iadd C dL_law_706 (n := 707) rfl ?_
  refine u_sld C hX hi1 dL_law_707 (n := 708) rfl ?_
  refine u_aload_n C 0 dL_law_708 rfl rfl (n := 709) rfl ?_
  refine u_iload C 4 dL_law_709 rfl (n := 711) rfl ?_
  refine u_iconst (v := 2) C dL_law_711 (by decide) (n := 712) rfl ?_
  refine u_iadd C dL_law_712 (n := 713) rfl ?_
  refine u_sld C hX hi2 dL_law_713 (n := 714) rfl ?_
  refine u_callXL (As := [.int (xs (i4 + 1).toNatClampNeg), .int (xs (i4 + 2).toNatClampNeg)]) C (c_X9_turn (xs (i4 + 1).toNatClampNeg) (xs (i4 + 2).toNatClampNeg) S e1) mf_X9_turn w_28_13 ⟨rfl, rfl, by decide, by decide⟩ hc1 rfl rfl (Nat.le_of_ble_eq_true rfl) dL_law_714 (n := 717) rfl ?_
  refine u_aload_n C 2 dL_law_717 rfl rfl (n := 718) rfl ?_
  refine u_aload_n C 0 dL_law_718 rfl rfl (n := 719) rfl ?_
  refine u_iload C 4 dL_law_719 rfl (n := 721) rfl ?_
  refine u_iconst (v := 1) C dL_law_721 (by decide) (n := 722) rfl ?_
  refine u_iadd C dL_law_722 (n := 723) rfl ?_
  refine u_sld C hX hi1 dL_law_723 (n := 724) rfl ?_
  refine u_aload_n C 0 dL_law_724 rfl rfl (n := 725) rfl ?_
  refine u_iload C 4 dL_law_725 rfl (n := 727) rfl ?_
  refine u_iconst (v := 2) C dL_law_727 (by decide) (n := 728) rfl ?_
  refine u_iadd C dL_law_728 (n := 729) rfl ?_
  refine u_sld C hX hi2 dL_law_729 (n := 730) rfl ?_
  refine u_callML (As := [.int (xs (i4 + 1).toNatClampNeg), .int (xs (i4 + 2).toNatClampNeg)]) C (c_X10_turn (xs (i4 + 1).toNatClampNeg) (xs (i4 + 2).toNatClampNeg) T e2) mf_X10_turn w_29_6 ⟨rfl, rfl, by decide, by decide⟩ hc1 rfl rfl (Nat.le_of_ble_eq_true rfl) dL_law_730 (n := 733) rfl ?_
  refine u_lcmp C dL_law_733 (n := 734) rfl ?_
  refine u_if_eq C dL_law_734 (t := 870) (by decide) (n := 737) rfl (fun _ => ?_) (fun c => absurd (lg_self rfl) c)
  refine u_widen (cs' := cs + 1) (ss' := ss + 6) (by omega) (by omega) ?_
  exact u_sub [0, 1, 2, 3, 4] rfl (kk _ _ _ hR1)
set_option maxRecDepth 20000 in
set_option maxHeartbeats 2000000 in
theorem lc_home {x : Ctx} (C : CxG x cL_law RL 7 room_1) {Rel : St → St → Prop} {b Lh : Nat} {xs : Nat → Int32} (hX : match x with | (_, _, _, _, s, _, _, _, _, _, _, _, _, A) => va_X b Lh xs s s.heap ∧ b < s.heap.size ∧ ¬ A b) {Q : State → Prop} {q2 : Nat → Nat} {ao cs ss : Nat} (hcR : cs + 1 ≤ 601024 ∧ ss + 6 ≤ 7293033) {S T : St} {fo : Nat → Int64} {i4 : Int32} (hi1 : vp_in (i4 + 1) Lh) (hi2 : vp_in (i4 + 2) Lh) (hi3 : vp_in (i4 + 3) Lh) (hi4 : vp_in (i4 + 4) Lh) (hi5 : vp_in (i4 + 5) Lh) (hR : Rel S T) (hs : St_home Rel) (kk : ∀ (S1 T1 : St) (f1 : Nat → Int64), Rel S1 T1 → VW x 7 Q (LW (xq x) q2 ao (xr x) S1 T1 f1) (cs + 1) (ss + 6) 870 [(0, .ref b), (1, .ref (xq x 0)), (2, .ref (q2 0)), (3, .ref ao), (4, .int i4)] []) : VW x 7 Q (LW (xq x) q2 ao (xr x) S T fo) cs ss 739 [(0, .ref b), (1, .ref (xq x 0)), (2, .ref (q2 0)), (3, .ref ao), (4, .int i4)] [] := by
  have hc1 : cs ≤ room_1.cells ∧ ss ≤ room_1.slots := ⟨Nat.le_trans (Nat.le_succ _) hcR.1, Nat.le_trans (Nat.le_add_right _ 6) hcR.2⟩
  have hc2 : cs + 1 ≤ room_1.cells ∧ ss + 6 ≤ room_1.slots := hcR
  obtain ⟨r, S1, T1, e1, e2, hR1⟩ := hs  S T  hR
  refine u_aload_n C 1 dL_law_739 rfl rfl (n := 740) rfl ?_
  refine u_callXI (As := []) C (c_X9_home  S e1) mf_X9_home w_29_14 ⟨rfl, rfl, by decide, by decide⟩ hc1 rfl rfl (Nat.le_of_ble_eq_true rfl) dL_law_740 (n := 743) rfl ?_
  refine u_aload_n C 2 dL_law_743 rfl rfl (n := 744) rfl ?_
  refine u_callMI (As := []) C (c_X10_home  T e2) mf_X10_home w_32_8 ⟨rfl, rfl, by decide, by decide⟩ hc1 rfl rfl (Nat.le_of_ble_eq_true rfl) dL_law_744 (n := 747) rfl ?_
  refine u_icmp_eq C dL_law_747 (t := 870) (by decide) (n := 750) rfl (fun _ => ?_) (fun c => absurd rfl c)
  refine u_widen (cs' := cs + 1) (ss' := ss + 6) (by omega) (by omega) ?_
  exact u_sub [0, 1, 2, 3, 4] rfl (kk _ _ _ hR1)
set_option maxRecDepth 20000 in
set_option maxHeartbeats 2000000 in
theorem lc_homing {x : Ctx} (C : CxG x cL_law RL 7 room_1) {Rel : St → St → Prop} {b Lh : Nat} {xs : Nat → Int32} (hX : match x with | (_, _, _, _, s, _, _, _, _, _, _, _, _, A) => va_X b Lh xs s s.heap ∧ b < s.heap.size ∧ ¬ A b) {Q : State → Prop} {q2 : Nat → Nat} {ao cs ss : Nat} (hcR : cs + 1 ≤ 601024 ∧ ss + 6 ≤ 7293033) {S T : St} {fo : Nat → Int64} {i4 : Int32} (hi1 : vp_in (i4 + 1) Lh) (hi2 : vp_in (i4 + 2) Lh) (hi3 : vp_in (i4 + 3) Lh) (hi4 : vp_in (i4 + 4) Lh) (hi5 : vp_in (i4 + 5) Lh) (hR : Rel S T) (hs : St_homing Rel) (kk : ∀ (S1 T1 : St) (f1 : Nat → Int64), Rel S1 T1 → VW x 7 Q (LW (xq x) q2 ao (xr x) S1 T1 f1) (cs + 1) (ss + 6) 870 [(0, .ref b), (1, .ref (xq x 0)), (2, .ref (q2 0)), (3, .ref ao), (4, .int i4)] []) : VW x 7 Q (LW (xq x) q2 ao (xr x) S T fo) cs ss 752 [(0, .ref b), (1, .ref (xq x 0)), (2, .ref (q2 0)), (3, .ref ao), (4, .int i4)] [] := by
  have hc1 : cs ≤ room_1.cells ∧ ss ≤ room_1.slots := ⟨Nat.le_trans (Nat.le_succ _) hcR.1, Nat.le_trans (Nat.le_add_right _ 6) hcR.2⟩
  have hc2 : cs + 1 ≤ room_1.cells ∧ ss + 6 ≤ room_1.slots := hcR
  obtain ⟨r, S1, T1, e1, e2, hR1⟩ := hs (xs (i4 + 1).toNatClampNeg) S T  hR
  refine u_aload_n C 1 dL_law_752 rfl rfl (n := 753) rfl ?_
  refine u_aload_n C 0 dL_law_753 rfl rfl (n := 754) rfl ?_
  refine u_iload C 4 dL_law_754 rfl (n := 756) rfl ?_
  refine u_iconst (v := 1) C dL_law_756 (by decide) (n := 757) rfl ?_
  refine u_iadd C dL_law_757 (n := 758) rfl ?_
  refine u_sld C hX hi1 dL_law_758 (n := 759) rfl ?_
  refine u_callXI (As := [.int (xs (i4 + 1).toNatClampNeg)]) C (c_X9_homing (xs (i4 + 1).toNatClampNeg) S e1) mf_X9_homing w_32_17 ⟨rfl, rfl, by decide, by decide⟩ hc1 rfl rfl (Nat.le_of_ble_eq_true rfl) dL_law_759 (n := 762) rfl ?_
  refine u_aload_n C 2 dL_law_762 rfl rfl (n := 763) rfl ?_
  refine u_aload_n C 0 dL_law_763 rfl rfl (n := 764) rfl ?_
  refine u_iload C 4 dL_law_764 rfl (n := 766) rfl ?_
  refine u_iconst (v := 1) C dL_law_766 (by decide) (n := 767) rfl ?_
  refine u_iadd C dL_law_767 (n := 768) rfl ?_
  refine u_sld C hX hi1 dL_law_768 (n := 769) rfl ?_
  refine u_callMI (As := [.int (xs (i4 + 1).toNatClampNeg)]) C (c_X10_homing (xs (i4 + 1).toNatClampNeg) T e2) mf_X10_homing w_32_23 ⟨rfl, rfl, by decide, by decide⟩ hc1 rfl rfl (Nat.le_of_ble_eq_true rfl) dL_law_769 (n := 772) rfl ?_
  refine u_icmp_eq C dL_law_772 (t := 870) (by decide) (n := 775) rfl (fun _ => ?_) (fun c => absurd rfl c)
  refine u_widen (cs' := cs + 1) (ss' := ss + 6) (by omega) (by omega) ?_
  exact u_sub [0, 1, 2, 3, 4] rfl (kk _ _ _ hR1)
set_option maxRecDepth 20000 in
set_option maxHeartbeats 2000000 in
theorem lc_look {x : Ctx} (C : CxG x cL_law RL 7 room_1) {Rel : St → St → Prop} {b Lh : Nat} {xs : Nat → Int32} (hX : match x with | (_, _, _, _, s, _, _, _, _, _, _, _, _, A) => va_X b Lh xs s s.heap ∧ b < s.heap.size ∧ ¬ A b) {Q : State → Prop} {q2 : Nat → Nat} {ao cs ss : Nat} (hcR : cs + 1 ≤ 601024 ∧ ss + 6 ≤ 7293033) {S T : St} {fo : Nat → Int64} {i4 : Int32} (hi1 : vp_in (i4 + 1) Lh) (hi2 : vp_in (i4 + 2) Lh) (hi3 : vp_in (i4 + 3) Lh) (hi4 : vp_in (i4 + 4) Lh) (hi5 : vp_in (i4 + 5) Lh) (hR : Rel S T) (hst : (xl x).stackTraces = false) {sa1 sa2 : Nat} (hXS : match x with | (_, _, _, _, s, _, _, _, _, _, _, _, _, A) => XS A sa1 sa2 s s.heap) (hs : St_look Rel) (kk : ∀ (S1 T1 : St) (f1 : Nat → Int64), Rel S1 T1 → VW x 7 Q (LW (xq x) q2 ao (xr x) S1 T1 f1) (cs + 1) (ss + 6) 870 [(0, .ref b), (1, .ref (xq x 0)), (2, .ref (q2 0)), (3, .ref ao), (4, .int i4)] []) : VW x 7 Q (LW (xq x) q2 ao (xr x) S T fo) cs ss 777 [(0, .ref b), (1, .ref (xq x 0)), (2, .ref (q2 0)), (3, .ref ao), (4, .int i4)] [] := by
  have hc1 : cs ≤ room_1.cells ∧ ss ≤ room_1.slots := ⟨Nat.le_trans (Nat.le_succ _) hcR.1, Nat.le_trans (Nat.le_add_right _ 6) hcR.2⟩
  have hc2 : cs + 1 ≤ room_1.cells ∧ ss + 6 ≤ room_1.slots := hcR
  obtain ⟨kv, S1, bb, T1, T2, e1, e2, e3, e4, hR1⟩ := hs (xs (i4 + 1).toNatClampNeg) (xs (i4 + 2).toNatClampNeg) S T hR
  refine u_aload_n C 1 dL_law_777 rfl rfl (n := 778) rfl ?_
  refine u_aload_n C 0 dL_law_778 rfl rfl (n := 779) rfl ?_
  refine u_iload C 4 dL_law_779 rfl (n := 781) rfl ?_
  refine u_iconst (v := 1) C dL_law_781 (by decide) (n := 782) rfl ?_
  refine u_iadd C dL_law_782 (n := 783) rfl ?_
  refine u_sld C hX hi1 dL_law_783 (n := 784) rfl ?_
  refine u_aload_n C 0 dL_law_784 rfl rfl (n := 785) rfl ?_
  refine u_iload C 4 dL_law_785 rfl (n := 787) rfl ?_
  refine u_iconst (v := 2) C dL_law_787 (by decide) (n := 788) rfl ?_
  refine u_iadd C dL_law_788 (n := 789) rfl ?_
  refine u_sld C hX hi2 dL_law_789 (n := 790) rfl ?_
  refine u_aload_n C 3 dL_law_790 rfl rfl (n := 791) rfl ?_
  refine u_callK C hst hXS e1 hcR dL_law_791 (n := 794) rfl ?_ (Nat.le_of_ble_eq_true rfl)
  refine u_istore (L' := [(5, .int kv.1), (0, .ref b), (1, .ref (xq x 0)), (2, .ref (q2 0)), (3, .ref ao), (4, .int i4)]) C dL_law_794 (by decide) rfl (n := 796) rfl ?_
  refine u_aload_n C 3 dL_law_796 rfl rfl (n := 797) rfl ?_
  refine u_aload_n C 1 dL_law_797 rfl rfl (n := 798) rfl ?_
  refine u_iload C 5 dL_law_798 rfl (n := 800) rfl ?_
  refine u_iconst (v := 1) C dL_law_800 (by decide) (n := 801) rfl ?_
  refine u_iadd C dL_law_801 (n := 802) rfl ?_
  refine u_sld C hX hi1 dL_law_802 (n := 803) rfl ?_
  refine u_aload_n C 1 dL_law_803 rfl rfl (n := 804) rfl ?_
  refine u_iload C 5 dL_law_804 rfl (n := 806) rfl ?_
  refine u_iconst (v := 2) C dL_law_806 (by decide) (n := 807) rfl ?_
  refine u_iadd C dL_law_807 (n := 808) rfl ?_
  refine u_sld C hX hi2 dL_law_808 (n := 809) rfl ?_
  refine u_callMI (As := [.int (xs (i4 + 1).toNatClampNeg), .int (xs (i4 + 2).toNatClampNeg)]) C (c_X10_look (xs (i4 + 1).toNatClampNeg) (xs (i4 + 2).toNatClampNeg) T e2) mf_X10_look w_33_21 ⟨rfl, rfl, by decide, by decide⟩ hc2 rfl rfl (Nat.le_of_ble_eq_true rfl) dL_law_809 (n := 812) rfl ?_
  refine u_istore (L' := [(6, .int bb), (5, .int kv.1), (0, .ref b), (1, .ref (xq x 0)), (2, .ref (q2 0)), (3, .ref ao), (4, .int i4)]) C dL_law_812 (by decide) rfl (n := 814) rfl ?_
  refine u_aload_n C 4 dL_law_814 rfl rfl (n := 815) rfl ?_
  refine u_callMI (As := []) C (c_X10_thrown  T1 e3) mf_X10_thrown w_34_5 ⟨rfl, rfl, by decide, by decide⟩ hc2 rfl rfl (Nat.le_of_ble_eq_true rfl) dL_law_815 (n := 818) rfl ?_
  refine u_iload C 1 dL_law_818 rfl (n := 820) rfl ?_
  refine u_icmp_eq C dL_law_820 (t := 825) (by decide) (n := 823) rfl (fun _ => ?_) (fun c => absurd rfl c)
  refine u_iload C 1 dL_law_825 rfl (n := 827) rfl ?_
  refine u_if_ne C dL_law_827 (t := 842) (by decide) (n := 830) rfl (fun _ => ?_) (fun c0 => ?_)
  · refine u_goto C dL_law_842 (n := 870) (by decide) ?_
    exact u_sub [2, 3, 4, 5, 6] rfl (kk _ _ _ hR1)
  · refine u_aload_n C 5 dL_law_830 rfl rfl (n := 831) rfl ?_
    refine u_iconst (v := 0) C dL_law_831 (by decide) (n := 832) rfl ?_
    refine u_lald (k := 0) C rfl dL_law_832 (n := 833) rfl ?_
    refine u_iload C 0 dL_law_833 rfl (n := 835) rfl ?_
    refine u_i2l C dL_law_835 (n := 836) rfl ?_
    refine u_lcmp C dL_law_836 (n := 837) rfl ?_
    refine u_if_eq C dL_law_837 (t := 842) (by decide) (n := 840) rfl (fun _ => ?_) (fun c => absurd (lg_self (look_eq c0 e4)) c)
    refine u_goto C dL_law_842 (n := 870) (by decide) ?_
    exact u_sub [2, 3, 4, 5, 6] rfl (kk _ _ _ hR1)
set_option maxRecDepth 20000 in
set_option maxHeartbeats 2000000 in
theorem lc_count {x : Ctx} (C : CxG x cL_law RL 7 room_1) {Rel : St → St → Prop} {b Lh : Nat} {xs : Nat → Int32} (hX : match x with | (_, _, _, _, s, _, _, _, _, _, _, _, _, A) => va_X b Lh xs s s.heap ∧ b < s.heap.size ∧ ¬ A b) {Q : State → Prop} {q2 : Nat → Nat} {ao cs ss : Nat} (hcR : cs + 1 ≤ 601024 ∧ ss + 6 ≤ 7293033) {S T : St} {fo : Nat → Int64} {i4 : Int32} (hi1 : vp_in (i4 + 1) Lh) (hi2 : vp_in (i4 + 2) Lh) (hi3 : vp_in (i4 + 3) Lh) (hi4 : vp_in (i4 + 4) Lh) (hi5 : vp_in (i4 + 5) Lh) (hR : Rel S T) (hs : St_count Rel) (kk : ∀ (S1 T1 : St) (f1 : Nat → Int64), Rel S1 T1 → VW x 7 Q (LW (xq x) q2 ao (xr x) S1 T1 f1) (cs + 1) (ss + 6) 870 [(0, .ref b), (1, .ref (xq x 0)), (2, .ref (q2 0)), (3, .ref ao), (4, .int i4)] []) : VW x 7 Q (LW (xq x) q2 ao (xr x) S T fo) cs ss 845 [(0, .ref b), (1, .ref (xq x 0)), (2, .ref (q2 0)), (3, .ref ao), (4, .int i4)] [] := by
  have hc1 : cs ≤ room_1.cells ∧ ss ≤ room_1.slots := ⟨Nat.le_trans (Nat.le_succ _) hcR.1, Nat.le_trans (Nat.le_add_right _ 6) hcR.2⟩
  have hc2 : cs + 1 ≤ room_1.cells ∧ ss + 6 ≤ room_1.slots := hcR
  obtain ⟨r, S1, T1, e1, e2, hR1⟩ := hs (xs (i4 + 1).toNatClampNeg) S T  hR
  refine u_aload_n C 1 dL_law_845 rfl rfl (n := 846) rfl ?_
  refine u_aload_n C 0 dL_law_846 rfl rfl (n := 847) rfl ?_
  refine u_iload C 4 dL_law_847 rfl (n := 849) rfl ?_
  refine u_iconst (v := 1) C dL_law_849 (by decide) (n := 850) rfl ?_
  refine u_iadd C dL_law_850 (n := 851) rfl ?_
  refine u_sld C hX hi1 dL_law_851 (n := 852) rfl ?_
  refine u_callXI (As := [.int (xs (i4 + 1).toNatClampNeg)]) C (c_X9_count (xs (i4 + 1).toNatClampNeg) S e1) mf_X9_count w_34_9 ⟨rfl, rfl, by decide, by decide⟩ hc1 rfl rfl (Nat.le_of_ble_eq_true rfl) dL_law_852 (n := 855) rfl ?_
  refine u_aload_n C 2 dL_law_855 rfl rfl (n := 856) rfl ?_
  refine u_aload_n C 0 dL_law_856 rfl rfl (n := 857) rfl ?_
  refine u_iload C 4 dL_law_857 rfl (n := 859) rfl ?_
  refine u_iconst (v := 1) C dL_law_859 (by decide) (n := 860) rfl ?_
  refine u_iadd C dL_law_860 (n := 861) rfl ?_
  refine u_sld C hX hi1 dL_law_861 (n := 862) rfl ?_
  refine u_callMI (As := [.int (xs (i4 + 1).toNatClampNeg)]) C (c_X10_count (xs (i4 + 1).toNatClampNeg) T e2) mf_X10_count w_34_17 ⟨rfl, rfl, by decide, by decide⟩ hc1 rfl rfl (Nat.le_of_ble_eq_true rfl) dL_law_862 (n := 865) rfl ?_
  refine u_icmp_eq C dL_law_865 (t := 870) (by decide) (n := 868) rfl (fun _ => ?_) (fun c => absurd rfl c)
  refine u_widen (cs' := cs + 1) (ss' := ss + 6) (by omega) (by omega) ?_
  exact u_sub [0, 1, 2, 3, 4] rfl (kk _ _ _ hR1)
