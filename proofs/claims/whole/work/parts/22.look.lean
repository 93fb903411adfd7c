/-! LabyrinthGarden.look, which throws -/
def IOB : String := "java/lang/IndexOutOfBoundsException"
def NSE : String := "java/util/NoSuchElementException"
def thN : List String := ["java/lang/RuntimeException", "java/lang/Exception"]
def atI : List Cond := vx_atS RX9 207 IOB thN
def rx13 : ByteArray := ⟨#[0x2a, 0x2b, 0xb7, 0x00, 0x0d, 0xb1]⟩
def atN : List Cond := vy_at RX9 226 NSE 13 rx13 thN
def dclY : List MethodName := [Bundle.initS "java/lang/RuntimeException", Bundle.initS "java/lang/Exception", Bundle.initS Bundle.tN]
theorem warmD {y : MethodName} {s U : State} (hW : s.WarmedH U.vm) (hZ : va_Nw (.declares y) s) : va_Nw (.declares y) U := va_tabs rfl (rfl : (s.setVm U.vm).vm = U.vm) (by rw [Cond.declares_setVm hW.alike]; exact hZ)
def bigX : List Cond := wsL_law0 ++ (atI.filter goodWord ++ atN.filter goodWord)
theorem bigX_good : bigX.all goodWord = true := by
  unfold bigX
  rw [List.all_append, List.all_append, big_good]
  simp only [List.all_filter, Bool.true_and]
  rw [List.all_eq_true.mpr (fun w _ => by cases goodWord w <;> rfl), List.all_eq_true.mpr (fun w _ => by cases goodWord w <;> rfl)]
  rfl
theorem in_bigX : ∀ w ∈ wsL_law0, w ∈ bigX := fun _ h => List.mem_append_left _ h
theorem good_bigX {c : Cond} (h : c ∈ bigX) : GoodIn bigX (c :: bigX) := by
  intro w hw
  have hm : w ∈ bigX := by
    rcases List.mem_cons.mp hw with rfl | h1
    · exact h
    · exact h1
  exact ⟨hm, good_of_word (List.all_eq_true.mp bigX_good w hm)⟩
/-- what throwing stands on: two statics, two texts, what is castable -/
def XS (A : Nat → Prop) (sa1 sa2 : Nat) (U : State) (H : Heap) : Prop := vx_Zq Bundle.tN "UNASSIGNED_STACK" Bundle.steD A U H ∧ vx_Zq Bundle.tN "SUPPRESSED_SENTINEL" Bundle.listD A U H ∧ vk_R RX9 205 "no such place" sa1 U ∧ vk_R RX9 224 "no such what" sa2 U ∧ va_Nw (.castable IOB IOB) U ∧ va_Nw (.castable NSE NSE) U ∧ va_Nc NSE IOB U ∧ ∀ y ∈ dclY, va_Nw (.declares y) U
theorem XS.go {A A' : Nat → Prop} {sa1 sa2 : Nat} {s U : State} {H H1 : Heap} (h : XS A sa1 sa2 s H) (hW : s.WarmedH U.vm) (hk : ∀ a : Nat, a < H.size → ¬ A a → H1[a]? = H[a]?) (hA : ∀ q, A' q → A q) : XS A' sa1 sa2 U H1 :=
  ⟨((h.1.kept hk).moved hW.alike).narrow hA, ((h.2.1.kept hk).moved hW.alike).narrow hA, h.2.2.1.warm hW, h.2.2.2.1.warm hW, h.2.2.2.2.1.warmC hW, h.2.2.2.2.2.1.warmC hW, va_Nc.moved hW.alike h.2.2.2.2.2.2.1, fun y hy => warmD hW (h.2.2.2.2.2.2.2 y hy)⟩
theorem XS.same {A : Nat → Prop} {sa1 sa2 : Nat} {s U : State} {H : Heap} (h : XS A sa1 sa2 s H) (hv : U.vm = s.vm) : XS A sa1 sa2 U H := by
  have hal : s.vm.Alike U.vm := by rw [hv]; exact Vm.Alike.refl s.vm
  exact ⟨h.1.moved hal, h.2.1.moved hal, h.2.2.1.same hv, h.2.2.2.1.same hv, h.2.2.2.2.1.same rfl hv.symm, h.2.2.2.2.2.1.same rfl hv.symm, va_Nc.moved hal h.2.2.2.2.2.2.1, fun y hy => (h.2.2.2.2.2.2.2 y hy).same rfl hv.symm⟩
def PreL (D : va_G) (q : Nat → Nat) (ar : Ar) (S : St) (sz sa1 sa2 : Nat) (U : State) : Prop := Pre D q ar WX S sz U ∧ XS (va_A (WX q ar S) sz) sa1 sa2 U U.heap
theorem PreL.blind {av : List Value} {D : va_G} {q : Nat → Nat} {ar : Ar} {S : St} {sz sa1 sa2 : Nat} : FrameBlind (va_Pc av (PreL D q ar S sz sa1 sa2)) := by
  intro a U g mk h
  obtain ⟨h0, ⟨h1, hP, hK, hD, hN⟩, hX⟩ := h
  exact ⟨h0, ⟨h1, hP, va_K.moved (u := U) (U := U.calling g mk a) (Vm.Alike.refl U.vm) hK, hD, NW.same (u := U) (U := U.calling g mk a) rfl hN⟩, XS.same (s := U) (U := U.calling g mk a) hX rfl⟩
/-- look as a function: 0 and the answer, 1 or 2 and which exception -/
def m_X9_look (a1 a2 : Int32) (S : St) : Option ((Int32 × Int32) × St) :=
  bI (m_X0_hasPlace a1 S) fun r S1 =>
  if r = 0 then some ((1, 0), S1)
  else if a2 = 0 then ck a1 24 <| some ((0, rd S1 10 a1.toNatClampNeg), S1)
  else if a2 = 1 then ck a1 24 <| some ((0, rd S1 11 a1.toNatClampNeg), S1)
  else if a2 = 2 then ck a1 24 <| some ((0, rd S1 12 a1.toNatClampNeg), S1)
  else if a2 = 3 then ck a1 24 <| some ((0, rd S1 13 a1.toNatClampNeg), S1)
  else some ((2, 0), S1)
def rm_X9_look : Room := { frames := 6, cells := 1, slots := 6, locals := 90 }
def XCl (D : va_G) (q : Nat → Nat) (ar : Ar) (A : Nat → Prop) (res : (Int32 × Int32) × St) : String → State → State → Prop := vx_X (fun _ : St => True) (fun E u t => ((E = IOB ∧ res = ((1, 0), u)) ∨ (E = NSE ∧ res = ((2, 0), u))) ∧ va_P D vwCl (WX q ar u) t.heap) A
theorem gdI : ∀ w ∈ Cond.classLink RX9 203 IOB :: Cond.initialized IOB :: vx_atS RX9 207 IOB thN, vx_ot w = true := by decide +kernel
theorem gdN : ∀ w ∈ Cond.classLink RX9 222 NSE :: Cond.initialized NSE :: vy_at RX9 226 NSE 13 rx13 thN, vx_ot w = true := by decide +kernel
theorem ngI : ∀ w ∈ atI.filter (fun w => !goodWord w), w ∈ Cond.castable IOB IOB :: dclY.map Cond.declares := by decide +kernel
theorem ngN : ∀ w ∈ atN.filter (fun w => !goodWord w), w ∈ Cond.castable NSE NSE :: dclY.map Cond.declares := by decide +kernel
set_option maxRecDepth 20000 in
set_option maxHeartbeats 2000000 in
theorem c_X9_look {l : Launch} (hst : l.stackTraces = false) {D : va_G} {q : Nat → Nat} {ar : Ar} {sa1 sa2 : Nat} (a1 a2 : Int32) (S : St) {res : (Int32 × Int32) × St} (h : m_X9_look a1 a2 S = some res) (sz : Nat) :
    vx_Met l yX9_look (Cond.code yX9_look cX9_look 3 (some .int) :: bigX) rm_X9_look (va_Pc [.ref (q 0), .int a1, .int a2] (PreL D q ar S sz sa1 sa2)) (va_Qi (fun r u => res = ((0, r), u)) (fun u t => va_P D vwCl (WX q ar u) t.heap) (va_A (WX q ar S) sz)) (XCl D q ar (va_A (WX q ar S) sz) res) 1 6 (va_A (WX q ar S) sz) := by
  refine vx_ofW (cc := cX9_look) (maxL := 3) (ret := some .int) (by decide +kernel) rfl ?_
  intro p e s m args below meth c s₁ B hml htab hv
  obtain ⟨rfl, ⟨hsz, hP, hK, hD, hN⟩, hX⟩ := hv
  subst hsz
  have hts := atoms_spec (ws := Cond.code yX9_look cX9_look 3 (some .int) :: bigX) B.pre
  have hbx : ∀ w ∈ bigX, w.before _ s = true := fun w h => hts w (List.mem_cons_of_mem _ h)
  generalize hAe : va_A (WX q ar S) s.heap.size = A at hX ⊢
  have C : Cx (p, l, e, rm_X9_look, s, m, #[.ref (q 0), .int a1, .int a2], below, meth, c, D, q, ar, A) WX cX9_look RX9 3 rm_X9_look (some .int) := ⟨B.exec, B.bytes, hml, findClass_of_methodNamed B.named, fun w h => hbx w (in_bigX w h), hK, fun T => by rw [← hAe]; exact va_D_adr (adrX q ar S T) hD.self, hN, B.notSynchronized, fun a h => by rw [← hAe]; exact Or.inr h, rfl, B.returns⟩
  have hdcl : ∀ w ∈ dclY.map Cond.declares, w.before #[.ref (q 0), .int a1, .int a2] s = true := fun w hw => by
    obtain ⟨y, hy, rfl⟩ := List.mem_map.mp hw
    exact va_Nw.use rfl (hX.2.2.2.2.2.2.2 y hy)
  have hout : ∀ z : Nat, ∀ x ∈ c.exceptionTable.toList, covers x z = false := fun z x hx => (htab x hx).elim
  have iret : ∀ {T : St} {pc : Nat} {L : List (Nat × Value)} {a : Int32}, res = ((0, a), T) → decode cX9_look pc = .ok (.ireturn, 1) → V (p, l, e, rm_X9_look, s, m, #[.ref (q 0), .int a1, .int a2], below, meth, c, D, q, ar, A) WX 3 (vx_MQ below (va_Qi (fun r u => res = ((0, r), u)) (fun u t => va_P D vwCl (WX q ar u) t.heap) A) (XCl D q ar A res) #[.ref (q 0), .int a1, .int a2] s 1 6 A) T pc L [.int a] := by
    intro T pc L a e1 hd
    obtain ⟨hx, hb, hml2, hown, hts2, hK2, hD2, hN2, hlk, hA, hR, hr⟩ := C
    intro H locs ls hh hP2 hS
    refine vx_ret (W.widen (k := 1) (n := 6) (by decide) (by decide) ?_)
    exact W.iret (v := a) hx hb hr (fun t ht hW => ⟨⟨a, T, rfl, e1, by show va_P D vwCl (WX q ar T) t.heap; rw [ht]; exact hP2⟩, hS.F ht⟩) hS.2.2 hd
  have hV : V (p, l, e, rm_X9_look, s, m, #[.ref (q 0), .int a1, .int a2], below, meth, c, D, q, ar, A) WX 3 (vx_MQ below (va_Qi (fun r u => res = ((0, r), u)) (fun u t => va_P D vwCl (WX q ar u) t.heap) A) (XCl D q ar A res) #[.ref (q 0), .int a1, .int a2] s 1 6 A) S 0 [(0, .ref (q 0)), (1, .int a1), (2, .int a2)] [] := by
    unfold m_X9_look at h
    refine v_aload_n C 0 dX9_look_0 rfl rfl (n := 1) rfl ?_
    refine g_X9_garden C w_2_0 dX9_look_1 (n := 4) rfl ?_
    refine v_iload_n C 1 dX9_look_4 rfl rfl (n := 5) rfl ?_
    obtain ⟨r, S1, e1, h⟩ := bI_e h
    refine v_callVI (As := [.int a1]) C (c_X0_hasPlace a1 S e1) mf_X0_hasPlace w_19_23 (oX0 _ _ _) rfl ⟨rfl, rfl, by decide, by decide⟩ rfl rfl (Nat.le_of_ble_eq_true rfl) dX9_look_5 (n := 8) rfl ?_
    refine v_if_ne C dX9_look_8 (t := 21) (by decide) (n := 11) rfl (fun c1 => ?_) (fun c1 => ?_)
    · have h := ite_n c1 h
      refine v_iload_n C 2 dX9_look_21 rfl rfl (n := 22) rfl ?_
      by_cases c2 : a2 = 0
      · have h := ite_p c2 h
        obtain ⟨hi, h⟩ := ck_e h
        refine v_tabI (off := 30) C dX9_look_22 c2 (by decide) (by decide) (by decide) (t := 52) (by decide) ?_
        refine v_aload_n C 0 dX9_look_52 rfl rfl (n := 53) rfl ?_
        refine g_X9_garden C w_2_0 dX9_look_53 (n := 56) rfl ?_
        refine g_X0_junctionAt C w_33_17 dX9_look_56 (n := 59) rfl ?_
        refine v_iload_n C 1 dX9_look_59 rfl rfl (n := 60) rfl ?_
        refine v_ald C aX_10 hi dX9_look_60 (n := 61) rfl ?_
        exact iret (Option.some.inj h).symm dX9_look_61
      · have h := ite_n c2 h
        by_cases c3 : a2 = 1
        · have h := ite_p c3 h
          obtain ⟨hi, h⟩ := ck_e h
          refine v_tabI (off := 40) C dX9_look_22 c3 (by decide) (by decide) (by decide) (t := 62) (by decide) ?_
          refine v_aload_n C 0 dX9_look_62 rfl rfl (n := 63) rfl ?_
          refine g_X9_garden C w_2_0 dX9_look_63 (n := 66) rfl ?_
          refine g_X0_endAt C w_33_18 dX9_look_66 (n := 69) rfl ?_
          refine v_iload_n C 1 dX9_look_69 rfl rfl (n := 70) rfl ?_
          refine v_ald C aX_11 hi dX9_look_70 (n := 71) rfl ?_
          exact iret (Option.some.inj h).symm dX9_look_71
        · have h := ite_n c3 h
          by_cases c4 : a2 = 2
          · have h := ite_p c4 h
            obtain ⟨hi, h⟩ := ck_e h
            refine v_tabI (off := 50) C dX9_look_22 c4 (by decide) (by decide) (by decide) (t := 72) (by decide) ?_
            refine v_aload_n C 0 dX9_look_72 rfl rfl (n := 73) rfl ?_
            refine g_X9_garden C w_2_0 dX9_look_73 (n := 76) rfl ?_
            refine g_X0_pathAt C w_33_19 dX9_look_76 (n := 79) rfl ?_
            refine v_iload_n C 1 dX9_look_79 rfl rfl (n := 80) rfl ?_
            refine v_ald C aX_12 hi dX9_look_80 (n := 81) rfl ?_
            exact iret (Option.some.inj h).symm dX9_look_81
          · have h := ite_n c4 h
            by_cases c5 : a2 = 3
            · have h := ite_p c5 h
              obtain ⟨hi, h⟩ := ck_e h
              refine v_tabI (off := 60) C dX9_look_22 c5 (by decide) (by decide) (by decide) (t := 82) (by decide) ?_
              refine v_aload_n C 0 dX9_look_82 rfl rfl (n := 83) rfl ?_
              refine g_X9_garden C w_2_0 dX9_look_83 (n := 86) rfl ?_
              refine g_X0_otherOf C w_33_20 dX9_look_86 (n := 89) rfl ?_
              refine v_iload_n C 1 dX9_look_89 rfl rfl (n := 90) rfl ?_
              refine v_ald C aX_13 hi dX9_look_90 (n := 91) rfl ?_
              exact iret (Option.some.inj h).symm dX9_look_91
            · have h := ite_n c5 h
              have q2 := lv_neT c2 (a := 0) (by decide)
              have q3 := lv_neT c3 (a := 1) (by decide)
              have q4 := lv_neT c4 (a := 2) (by decide)
              have q5 := lv_neT c5 (a := 3) (by decide)
              refine v_tabO C dX9_look_22 (by omega) (t := 92) (by decide) ?_
              obtain ⟨hx, hb, hml2, hown, hts2, hK2, hD2, hN2, hlk, hA, hR, hr⟩ := C
              intro H locs ls hh hP2 hS
              refine vy_throw hx hb hst (ix := 13) (rx := rx13) (by decide +kernel) (by decide +kernel) (by decide +kernel) (by decide +kernel) hown (by decide +kernel) (by decide +kernel) (hts2 _ w_33_15) (hts2 _ w_33_16) hX.2.2.2.1 (vx_hat (B := Cond.castable NSE NSE :: dclY.map Cond.declares) (fun w hw => hbx w (List.mem_append_right _ (List.mem_append_right _ hw))) ngN (vx_c (va_Nw.use rfl hX.2.2.2.2.2.1) hdcl)) gdN hX.1 hX.2.1 hS (hh.1.trans hml2.symm) dX9_look_92 dX9_look_95 dX9_look_96 dX9_look_98 dX9_look_101 (hout _) (by decide) (Nat.le_of_ble_eq_true rfl) (by decide) (by decide) hlk ?_ hS.2.2 (by decide) (by decide)
              intro t hvm hz hk
              exact ⟨S1, trivial, ⟨Or.inr ⟨rfl, (Option.some.inj h).symm⟩, hP2.kept (fun k y hy => hk _ (hP2 k y hy).lt)⟩, Nat.le_trans hS.1 hz, fun y h1 h2 => (hk y (Nat.lt_of_lt_of_le h1 hS.1)).trans (hS.2.1 y h1 h2)⟩
    · have h := ite_p c1 h
      obtain ⟨hx, hb, hml2, hown, hts2, hK2, hD2, hN2, hlk, hA, hR, hr⟩ := C
      intro H locs ls hh hP2 hS
      refine vx_throwS hx hb hst hown (by decide +kernel) (by decide +kernel) (hts2 _ w_33_13) (hts2 _ w_33_14) hX.2.2.1 (vx_hat (B := Cond.castable IOB IOB :: dclY.map Cond.declares) (fun w hw => hbx w (List.mem_append_right _ (List.mem_append_left _ hw))) ngI (vx_c (va_Nw.use rfl hX.2.2.2.2.1) hdcl)) gdI hX.1 hX.2.1 hS (hh.1.trans hml2.symm) dX9_look_11 dX9_look_14 dX9_look_15 dX9_look_17 dX9_look_20 (hout _) (by decide) (Nat.le_of_ble_eq_true rfl) (by decide) (by decide) hlk ?_ hS.2.2 (by decide) (by decide)
      intro t hvm hz hk
      exact ⟨S1, trivial, ⟨Or.inl ⟨rfl, (Option.some.inj h).symm⟩, hP2.kept (fun k y hy => hk _ (hP2 k y hy).lt)⟩, Nat.le_trans hS.1 hz, fun y h1 h2 => (hk y (Nat.lt_of_lt_of_le h1 hS.1)).trans (hS.2.1 y h1 h2)⟩
  rw [lg_entry_eq]
  exact hV s.heap [] _ (lv_entry [.ref (q 0), .int a1, .int a2] (Nat.le_of_ble_eq_true rfl)) hP va_S.rf
