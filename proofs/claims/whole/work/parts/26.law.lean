def lw_P (b : Addr) (xs : List Int32) (args : Array Value) (s : State) : Prop := args = #[.ref b] ∧ s.IntsAt b xs ∧ xs.length ≤ 3072 ∧ (Jvm.Cond.and given_1 narrow_1).before args s = true
def lw_Q (_ : Array Value) (s : State) (o : Outcome) (t : State) : Prop := o = .returned (some (.int 1)) ∧ Framed s o t [] 601024 7293033
def lw_Z (below : List Frame) (a : Array Value) (s : State) : State → Prop := fun t => ∃ o, t.status = .running ∧ Ended t below o ∧ lw_Q a s o t
/-- the law's own end, with 1 on the stack, nothing written that was there before, its room as the claim has it -/
theorem lw_ret {p : Program} {l : Launch} {e : Env} {s : State} {m : MethodId} {below : List Frame} {meth : Method} {c : Code} {b : Nat} (hx : p.tables.exec = Jvm.exec) (hb : c.code = code) (hr : meth.sig.returnType = ret) (hlocks : meth.locks = false) {pc : Nat} {H : Heap} {ls : Array Slot} (hdg : decode code pc = .ok (.ireturn, 1)) : W p l e room_1 s m #[Value.ref b] below meth c H [] 601024 7293033 (lw_Z below #[Value.ref b] s) (F0 m pc ls [.int 1]) := by
  intro T hT X
  obtain ⟨fs, hret, hrun, hended, hW, hframe⟩ := X.leave (v := some (.int 1)) (hlocks := hlocks) (fun h => by rw [hr] at h; cases h)
  have hmeth' : T.vm.method? m = some meth := X.method'
  refine ⟨T.setFrames fs, ?_, .returned (some (.int 1)), hrun, hended, rfl, ⟨_, rfl⟩, hW, hframe⟩
  jvm_step X.here [X.here.top, hx, hb, hdg, hmeth', hr, ret, narrow_b1]
  (try refine ⟨rfl, ?_⟩); (try refine ⟨rfl, ?_⟩)
  first | (intro acts; rw [hret _ acts rfl rfl rfl]) | rw [hret _ _ rfl rfl rfl]
  exact Steps.refl _
/-- what holds at the law's entry: the machine, the code, the tables' words (any of lw_tbl by 'hts w (by decide +kernel)'), the script of L ints xs at the cell b, what the Statement gives of the start (any of its parts by flat_of_before) -/
def lw_At (p : Program) (s : State) (m : MethodId) (meth : Method) (c : Code) (b L : Nat) (xs : Nat → Int32) : Prop :=
  p.tables.exec = Jvm.exec ∧ c.code = code ∧ meth.sig.returnType = ret ∧ c.maxLocals = 7 ∧ s.vm.findClass RL = some m.cls ∧ (∀ w ∈ lw_tbl, w.before #[Value.ref b] s = true) ∧ va_X b L xs s s.heap ∧ b < s.heap.size ∧ meth.locks = false ∧ (Jvm.Cond.and given_1 narrow_1).before #[Value.ref b] s = true
theorem ix_ok {j k Lh : Nat} (h : 6 * j + k < Lh) (hL : Lh ≤ 3072) : vp_in (nI (6 * j) + nI k) Lh := by
  rw [nI_add]
  exact vp_in_nI h (by omega)
set_option maxRecDepth 20000 in
set_option maxHeartbeats 4000000 in
theorem law_loop {x : Ctx} (C : CxG x cL_law RL 7 room_1) {Rel : St → St → Prop} (hs : StepAll Rel) {b Lh : Nat} {xs : Nat → Int32} (hX : match x with | (_, _, _, _, s, _, _, _, _, _, _, _, _, A) => va_X b Lh xs s s.heap ∧ b < s.heap.size ∧ ¬ A b) (hL : Lh ≤ 3072) (hst : (xl x).stackTraces = false) {sa1 sa2 : Nat} (hXS : match x with | (_, _, _, _, s, _, _, _, _, _, _, _, _, A) => XS A sa1 sa2 s s.heap) {Q : State → Prop} {q2 : Nat → Nat} {ao : Nat} (fin : ∀ (S T : St) (fo : Nat → Int64) (cs ss : Nat) (L : List (Nat × Value)), cs ≤ 601024 → ss ≤ 7293033 → VW x 7 Q (LW (xq x) q2 ao (xr x) S T fo) cs ss 876 L []) :
    ∀ (n j : Nat) (S T : St) (fo : Nat → Int64) (i4 : Int32), 6 * j ≤ Lh + 6 → i4 = nI (6 * j) → Lh + 6 < 6 * j + 6 * n → Rel S T → VW x 7 Q (LW (xq x) q2 ao (xr x) S T fo) (69 + j) (201530 + 6 * j) 23 [(0, .ref b), (1, .ref (xq x 0)), (2, .ref (q2 0)), (3, .ref ao), (4, .int i4)] [] := by
  obtain ⟨h_feed, h_rules, h_fault, h_anew, h_junction, h_path, h_mark, h_period, h_gate, h_shut, h_place, h_walk, h_walked, h_lost, h_help, h_helped, h_tale, h_turn, h_home, h_homing, h_look, h_count⟩ := hs
  intro n
  induction n with
  | zero => intro j S T fo i4 hj e4 hn; exact absurd hn (by omega)
  | succ n ih =>
    intro j S T fo i4 hj e4 hn hR
    have back : ∀ (S1 T1 : St) (f1 : Nat → Int64), 6 * j + 6 ≤ Lh → Rel S1 T1 → VW x 7 Q (LW (xq x) q2 ao (xr x) S1 T1 f1) (69 + j + 1) (201530 + 6 * j + 6) 870 [(0, .ref b), (1, .ref (xq x 0)), (2, .ref (q2 0)), (3, .ref ao), (4, .int i4)] [] := by
      intro S1 T1 f1 hle hR1
      refine u_iinc (v := i4 + 6) (L' := [(4, .int (i4 + 6)), (0, .ref b), (1, .ref (xq x 0)), (2, .ref (q2 0)), (3, .ref ao)]) C 4 dL_law_870 rfl rfl (by decide) rfl (n := 873) rfl ?_
      refine u_goto C dL_law_873 (n := 23) (by decide) ?_
      refine u_sub [1, 2, 3, 4, 0] rfl ?_
      have e6 : i4 + 6 = nI (6 * (j + 1)) := by rw [e4, show (6 : Int32) = nI 6 from rfl, nI_add, Nat.mul_succ]
      have g := ih (j + 1) S1 T1 f1 (i4 + 6) (by omega) e6 (by omega) hR1
      rw [show 69 + j + 1 = 69 + (j + 1) by omega, show 201530 + 6 * j + 6 = 201530 + 6 * (j + 1) by omega]
      exact g
    refine u_iload C 4 dL_law_23 rfl (n := 25) rfl ?_
    refine u_aload_n C 0 dL_law_25 rfl rfl (n := 26) rfl ?_
    refine u_slen C hX dL_law_26 (n := 27) rfl ?_
    refine u_bipush (v := 6) C dL_law_27 (by decide) (n := 29) rfl ?_
    refine u_isub C dL_law_29 (n := 30) rfl ?_
    refine u_icmp_gt C dL_law_30 (t := 876) (by decide) (n := 33) rfl (fun _ => ?_) (fun c => ?_)
    · exact fin S T fo _ _ _ (by omega) (by omega)
    · have hle : 6 * j + 6 ≤ Lh := by
        rcases Nat.lt_or_ge Lh (6 * j + 6) with q | q
        · refine absurd ?_ c
          rw [Int32.lt_iff_toInt_lt, e4, show (6 : Int32) = nI 6 from rfl, pk_sub_toInt (by omega) (by omega), nI_toInt (by omega)]
          omega
        · exact q
      have hcR : 69 + j + 1 ≤ 601024 ∧ 201530 + 6 * j + 6 ≤ 7293033 := ⟨by omega, by omega⟩
      have hi0 : vp_in i4 Lh := by rw [e4]; exact vp_in_nI (by omega) (by omega)
      have hi1 : vp_in (i4 + 1) Lh := by rw [e4]; exact ix_ok (k := 1) (by omega) hL
      have hi2 : vp_in (i4 + 2) Lh := by rw [e4]; exact ix_ok (k := 2) (by omega) hL
      have hi3 : vp_in (i4 + 3) Lh := by rw [e4]; exact ix_ok (k := 3) (by omega) hL
      have hi4 : vp_in (i4 + 4) Lh := by rw [e4]; exact ix_ok (k := 4) (by omega) hL
      have hi5 : vp_in (i4 + 5) Lh := by rw [e4]; exact ix_ok (k := 5) (by omega) hL
      refine u_aload_n C 0 dL_law_33 rfl rfl (n := 34) rfl ?_
      refine u_iload C 4 dL_law_34 rfl (n := 36) rfl ?_
      refine u_sld C hX hi0 dL_law_36 (n := 37) rfl ?_
      refine u_bipush (v := 31) C dL_law_37 (by decide) (n := 39) rfl ?_
      refine u_iand C dL_law_39 (n := 40) rfl ?_
      generalize xs i4.toNatClampNeg &&& 31 = w
      by_cases c0 : w = 0
      · refine u_tabI (off := 104) C dL_law_40 c0 (by decide) (by decide) (by decide) (t := 144) (by decide) ?_
        exact lc_feed C hX hcR hi1 hi2 hi3 hi4 hi5 hR h_feed (fun S1 T1 f1 h => back S1 T1 f1 hle h)
      by_cases c1 : w = 1
      · refine u_tabI (off := 177) C dL_law_40 c1 (by decide) (by decide) (by decide) (t := 217) (by decide) ?_
        exact lc_rules C hX hcR hi1 hi2 hi3 hi4 hi5 hR h_rules (fun S1 T1 f1 h => back S1 T1 f1 hle h)
      by_cases c2 : w = 2
      · refine u_tabI (off := 202) C dL_law_40 c2 (by decide) (by decide) (by decide) (t := 242) (by decide) ?_
        exact lc_fault C hX hcR hi1 hi2 hi3 hi4 hi5 hR h_fault (fun S1 T1 f1 h => back S1 T1 f1 hle h)
      by_cases c3 : w = 3
      · refine u_tabI (off := 227) C dL_law_40 c3 (by decide) (by decide) (by decide) (t := 267) (by decide) ?_
        exact lc_anew C hX hcR hi1 hi2 hi3 hi4 hi5 hR h_anew (fun S1 T1 f1 h => back S1 T1 f1 hle h)
      by_cases c4 : w = 4
      · refine u_tabI (off := 238) C dL_law_40 c4 (by decide) (by decide) (by decide) (t := 278) (by decide) ?_
        exact lc_junction C hX hcR hi1 hi2 hi3 hi4 hi5 hR h_junction (fun S1 T1 f1 h => back S1 T1 f1 hle h)
      by_cases c5 : w = 5
      · refine u_tabI (off := 279) C dL_law_40 c5 (by decide) (by decide) (by decide) (t := 319) (by decide) ?_
        exact lc_path C hX hcR hi1 hi2 hi3 hi4 hi5 hR h_path (fun S1 T1 f1 h => back S1 T1 f1 hle h)
      by_cases c6 : w = 6
      · refine u_tabI (off := 316) C dL_law_40 c6 (by decide) (by decide) (by decide) (t := 356) (by decide) ?_
        exact lc_mark C hX hcR hi1 hi2 hi3 hi4 hi5 hR h_mark (fun S1 T1 f1 h => back S1 T1 f1 hle h)
      by_cases c7 : w = 7
      · refine u_tabI (off := 369) C dL_law_40 c7 (by decide) (by decide) (by decide) (t := 409) (by decide) ?_
        exact lc_period C hX hcR hi1 hi2 hi3 hi4 hi5 hR h_period (fun S1 T1 f1 h => back S1 T1 f1 hle h)
      by_cases c8 : w = 8
      · refine u_tabI (off := 394) C dL_law_40 c8 (by decide) (by decide) (by decide) (t := 434) (by decide) ?_
        exact lc_gate C hX hcR hi1 hi2 hi3 hi4 hi5 hR h_gate (fun S1 T1 f1 h => back S1 T1 f1 hle h)
      by_cases c9 : w = 9
      · refine u_tabI (off := 431) C dL_law_40 c9 (by decide) (by decide) (by decide) (t := 471) (by decide) ?_
        exact lc_shut C hX hcR hi1 hi2 hi3 hi4 hi5 hR h_shut (fun S1 T1 f1 h => back S1 T1 f1 hle h)
      by_cases c10 : w = 10
      · refine u_tabI (off := 484) C dL_law_40 c10 (by decide) (by decide) (by decide) (t := 524) (by decide) ?_
        exact lc_place C hX hcR hi1 hi2 hi3 hi4 hi5 hR h_place (fun S1 T1 f1 h => back S1 T1 f1 hle h)
      by_cases c11 : w = 11
      · refine u_tabI (off := 521) C dL_law_40 c11 (by decide) (by decide) (by decide) (t := 561) (by decide) ?_
        exact lc_walk C hX hcR hi1 hi2 hi3 hi4 hi5 hR h_walk (fun S1 T1 f1 h => back S1 T1 f1 hle h)
      by_cases c12 : w = 12
      · refine u_tabI (off := 546) C dL_law_40 c12 (by decide) (by decide) (by decide) (t := 586) (by decide) ?_
        exact lc_walked C hX hcR hi1 hi2 hi3 hi4 hi5 hR h_walked (fun S1 T1 f1 h => back S1 T1 f1 hle h)
      by_cases c13 : w = 13
      · refine u_tabI (off := 571) C dL_law_40 c13 (by decide) (by decide) (by decide) (t := 611) (by decide) ?_
        exact lc_lost C hX hcR hi1 hi2 hi3 hi4 hi5 hR h_lost (fun S1 T1 f1 h => back S1 T1 f1 hle h)
      by_cases c14 : w = 14
      · refine u_tabI (off := 585) C dL_law_40 c14 (by decide) (by decide) (by decide) (t := 625) (by decide) ?_
        exact lc_help C hX hcR hi1 hi2 hi3 hi4 hi5 hR h_help (fun S1 T1 f1 h => back S1 T1 f1 hle h)
      by_cases c15 : w = 15
      · refine u_tabI (off := 610) C dL_law_40 c15 (by decide) (by decide) (by decide) (t := 650) (by decide) ?_
        exact lc_helped C hX hcR hi1 hi2 hi3 hi4 hi5 hR h_helped (fun S1 T1 f1 h => back S1 T1 f1 hle h)
      by_cases c16 : w = 16
      · refine u_tabI (off := 635) C dL_law_40 c16 (by decide) (by decide) (by decide) (t := 675) (by decide) ?_
        exact lc_tale C hX hcR hi1 hi2 hi3 hi4 hi5 hR h_tale (fun S1 T1 f1 h => back S1 T1 f1 hle h)
      by_cases c17 : w = 17
      · refine u_tabI (off := 661) C dL_law_40 c17 (by decide) (by decide) (by decide) (t := 701) (by decide) ?_
        exact lc_turn C hX hcR hi1 hi2 hi3 hi4 hi5 hR h_turn (fun S1 T1 f1 h => back S1 T1 f1 hle h)
      by_cases c18 : w = 18
      · refine u_tabI (off := 699) C dL_law_40 c18 (by decide) (by decide) (by decide) (t := 739) (by decide) ?_
        exact lc_home C hX hcR hi1 hi2 hi3 hi4 hi5 hR h_home (fun S1 T1 f1 h => back S1 T1 f1 hle h)
      by_cases c19 : w = 19
      · refine u_tabI (off := 712) C dL_law_40 c19 (by decide) (by decide) (by decide) (t := 752) (by decide) ?_
        exact lc_homing C hX hcR hi1 hi2 hi3 hi4 hi5 hR h_homing (fun S1 T1 f1 h => back S1 T1 f1 hle h)
      by_cases c20 : w = 20
      · refine u_tabI (off := 737) C dL_law_40 c20 (by decide) (by decide) (by decide) (t := 777) (by decide) ?_
        exact lc_look C hX hcR hi1 hi2 hi3 hi4 hi5 hR hst hXS h_look (fun S1 T1 f1 h => back S1 T1 f1 hle h)
      by_cases c21 : w = 21
      · refine u_tabI (off := 805) C dL_law_40 c21 (by decide) (by decide) (by decide) (t := 845) (by decide) ?_
        exact lc_count C hX hcR hi1 hi2 hi3 hi4 hi5 hR h_count (fun S1 T1 f1 h => back S1 T1 f1 hle h)
      have g0 := lv_neT c0 (a := 0) (by decide)
      have g1 := lv_neT c1 (a := 1) (by decide)
      have g2 := lv_neT c2 (a := 2) (by decide)
      have g3 := lv_neT c3 (a := 3) (by decide)
      have g4 := lv_neT c4 (a := 4) (by decide)
      have g5 := lv_neT c5 (a := 5) (by decide)
      have g6 := lv_neT c6 (a := 6) (by decide)
      have g7 := lv_neT c7 (a := 7) (by decide)
      have g8 := lv_neT c8 (a := 8) (by decide)
      have g9 := lv_neT c9 (a := 9) (by decide)
      have g10 := lv_neT c10 (a := 10) (by decide)
      have g11 := lv_neT c11 (a := 11) (by decide)
      have g12 := lv_neT c12 (a := 12) (by decide)
      have g13 := lv_neT c13 (a := 13) (by decide)
      have g14 := lv_neT c14 (a := 14) (by decide)
      have g15 := lv_neT c15 (a := 15) (by decide)
      have g16 := lv_neT c16 (a := 16) (by decide)
      have g17 := lv_neT c17 (a := 17) (by decide)
      have g18 := lv_neT c18 (a := 18) (by decide)
      have g19 := lv_neT c19 (a := 19) (by decide)
      have g20 := lv_neT c20 (a := 20) (by decide)
      have g21 := lv_neT c21 (a := 21) (by decide)
      refine u_tabO C dL_law_40 (by omega) (t := 870) (by decide) ?_
      refine u_widen (cs' := 69 + j + 1) (ss' := 201530 + 6 * j + 6) (by omega) (by omega) ?_
      exact back S T fo hle hR
theorem u_rear {x : Ctx} {nL : Nat} {Q : State → Prop} {a b c : va_W} {cs ss pc : Nat} {L : List (Nat × Value)} {st : List Value} (k : VW x nL Q ((c ++ b) ++ a) cs ss pc L st) : VW x nL Q ((a ++ b) ++ c) cs ss pc L st := by
  obtain ⟨p, l, en, R, s, m, args, below, meth, cd, D, q, ar, A⟩ := x
  intro H locs ls h hP hD hS
  refine k H locs ls h ?_ ?_ hS
  · have h1 := P_swap hP
    rw [← List.append_assoc] at h1
    exact P_rot h1
  · have h1 := D_swap hD
    rw [← List.append_assoc] at h1
    exact D_rot h1
theorem nest_tbl : ∀ t ∈ nestW, Cond.methodLinkNest t.1 t.2.1 t.2.2.1 t.2.2.2 ∈ lw_tbl := by decide +kernel
theorem knX {args : Array Value} {s : State} (hts : ∀ w ∈ bigX, w.before args s = true) (k : Nat) : ∃ ci : ClassId × (Nat → Nat), ∀ q, vwCl[k]? = some q → u_Kn s q.1 q.2.1 q.2.2 ci.1 ci.2 := by
  match k with
  | 0 =>
    obtain ⟨c0, i0, h⟩ := u_known (C := RX0) (T := TX0) (N := 16) (n := 16) hts (fun w h => in_bigX w (inX0 w h)) (hts _ (in_bigX _ w_1_22))
    exact ⟨(c0, i0), fun q hq => by cases hq; exact h⟩
  | 1 =>
    obtain ⟨c0, i0, h⟩ := u_known (C := RX1) (T := TX1) (N := 5) (n := 5) hts (fun w h => in_bigX w (inX1 w h)) (hts _ (in_bigX _ w_2_15))
    exact ⟨(c0, i0), fun q hq => by cases hq; exact h⟩
  | 2 =>
    obtain ⟨c0, i0, h⟩ := u_known (C := RX2) (T := TX2) (N := 11) (n := 11) hts (fun w h => in_bigX w (inX2 w h)) (hts _ (in_bigX _ w_2_23))
    exact ⟨(c0, i0), fun q hq => by cases hq; exact h⟩
  | 3 =>
    obtain ⟨c0, i0, h⟩ := u_known (C := RX3) (T := TX3) (N := 11) (n := 11) hts (fun w h => in_bigX w (inX3 w h)) (hts _ (in_bigX _ w_1_18))
    exact ⟨(c0, i0), fun q hq => by cases hq; exact h⟩
  | 4 =>
    obtain ⟨c0, i0, h⟩ := u_known (C := RX4) (T := TX4) (N := 1) (n := 1) hts (fun w h => in_bigX w (inX4 w h)) (hts _ (in_bigX _ w_2_11))
    exact ⟨(c0, i0), fun q hq => by cases hq; exact h⟩
  | 5 =>
    obtain ⟨c0, i0, h⟩ := u_known (C := RX5) (T := TX5) (N := 7) (n := 7) hts (fun w h => in_bigX w (inX5 w h)) (hts _ (in_bigX _ w_2_2))
    exact ⟨(c0, i0), fun q hq => by cases hq; exact h⟩
  | 6 =>
    obtain ⟨c0, i0, h⟩ := u_known (C := RX6) (T := TX6) (N := 3) (n := 3) hts (fun w h => in_bigX w (inX6 w h)) (hts _ (in_bigX _ w_2_19))
    exact ⟨(c0, i0), fun q hq => by cases hq; exact h⟩
  | 7 =>
    obtain ⟨c0, i0, h⟩ := u_known (C := RX7) (T := TX7) (N := 2) (n := 2) hts (fun w h => in_bigX w (inX7 w h)) (hts _ (in_bigX _ w_1_14))
    exact ⟨(c0, i0), fun q hq => by cases hq; exact h⟩
  | 8 =>
    obtain ⟨c0, i0, h⟩ := u_known (C := RX8) (T := TX8) (N := 5) (n := 5) hts (fun w h => in_bigX w (inX8 w h)) (hts _ (in_bigX _ w_2_7))
    exact ⟨(c0, i0), fun q hq => by cases hq; exact h⟩
  | 9 =>
    obtain ⟨c0, i0, h⟩ := u_known (C := RX9) (T := TX9) (N := 10) (n := 10) hts (fun w h => in_bigX w (inX9 w h)) (hts _ (in_bigX _ w_1_1))
    exact ⟨(c0, i0), fun q hq => by cases hq; exact h⟩
  | 10 =>
    obtain ⟨c0, i0, h⟩ := u_known (C := RX10) (T := TX10) (N := 55) (n := 55) hts (fun w h => in_bigX w (inX10 w h)) (hts _ (in_bigX _ w_1_4))
    exact ⟨(c0, i0), fun q hq => by cases hq; exact h⟩
  | k + 11 => exact ⟨(0, fun _ => 0), fun q hq => by simp [vwCl] at hq⟩
theorem arK {args : Array Value} {s : State} {ty : FieldType} (hp : ∀ C, ty ≠ .object C) (h : (Cond.arrayClass ty).before args s = true) : ∃ cA : ClassId, ArrOfT s cA ty ∧ va_RA s cA ty := by
  obtain ⟨cA, kA, comp, h1, h2, h3⟩ := Cond.arrayClass_spec h
  refine ⟨cA, fun n z => ⟨fun k h => (by cases h), kA, h2, comp, h3⟩, ?_⟩
  cases ty with
  | object C => exact absurd rfl (hp C)
  | _ => exact h1
set_option maxRecDepth 100000 in
set_option maxHeartbeats 4000000 in
theorem whole_start {p : Program} {e : Env} {s : State} {m : MethodId} {below : List Frame} {meth : Method} {c : Code} (l : Launch) (hst : l.stackTraces = false) {Rel : St → St → Prop} (hs : StepAll Rel) (hR0 : Rel S0 T0) {b L : Nat} {xs : Nat → Int32} (hL : L ≤ 3072) (C0 : lw_At p s m meth c b L xs) : W p l e room_1 s m #[Value.ref b] below meth c s.heap [] 0 0 (lw_Z below #[Value.ref b] s) (entryFrame m ([Value.ref b] : List Value).toArray 7) := by
  obtain ⟨hx, hb, hr, hml, hown, hts, hX, hbl, hlocks, hgv⟩ := id C0
  have hbx : ∀ w ∈ bigX, w.before #[Value.ref b] s = true := fun w h => hts w (tb_X w h)
  obtain ⟨f, hf⟩ := Classical.axiomOfChoice (knX hbx)
  obtain ⟨aI, hI1, hI2⟩ := arK (ty := .int) (fun C h => by cases h) (hbx _ (in_bigX _ w_3_5))
  obtain ⟨aZ, hZ1, hZ2⟩ := arK (ty := .boolean) (fun C h => by cases h) (hbx _ (in_bigX _ w_7_8))
  obtain ⟨aJ, hJ1, hJ2⟩ := arK (ty := .long) (fun C h => by cases h) (hbx _ (in_bigX _ w_1_6))
  have hK : va_K (fun k => (f k).1, fun k => (f k).2) vwCl (tyl (aI, aZ, aJ)) s := by
    refine ⟨fun k q hq => hf k q hq, fun k q hq => ?_⟩
    match k, hq with
    | 0, hq => cases hq; exact ⟨hI1, hI2⟩
    | 1, hq => cases hq; exact ⟨hZ1, hZ2⟩
    | 2, hq => cases hq; exact ⟨hJ1, hJ2⟩
    | k + 3, hq => simp [tyl] at hq
  have hN : NW s := fun t ht => va_Nw.of rfl (hts _ (nest_tbl t ht))
  have hgs := flat_of_before _ hgv
  have hA0 : ∀ a : Nat, a < s.heap.size → ¬ (fun q : Nat => s.heap.size ≤ q) a := fun a h => Nat.not_le.mpr h
  obtain ⟨sa1, -, -, -, hsa1, -⟩ := Cond.exactly_spec (args := #[Value.ref b]) (first := s) (o := none) (s := s) (idx := []) (t := .string "LabyrinthGarden" 205) (cls := "java/lang/String") (hgs _ (by decide +kernel))
  obtain ⟨sa2, -, -, -, hsa2, -⟩ := Cond.exactly_spec (args := #[Value.ref b]) (first := s) (o := none) (s := s) (idx := []) (t := .string "LabyrinthGarden" 224) (cls := "java/lang/String") (hgs _ (by decide +kernel))
  have hXS : XS (fun q : Nat => s.heap.size ≤ q) sa1 sa2 s s.heap := by
    refine ⟨vx_Zqof (args := #[Value.ref b]) (hts _ (by decide +kernel)) (hts _ (by decide +kernel)) (hgs _ (by decide +kernel)) hA0, vx_Zqof (args := #[Value.ref b]) (hts _ (by decide +kernel)) (hts _ (by decide +kernel)) (hgs _ (by decide +kernel)) hA0, vk_R.of (A := #[Value.ref b]) (hts (.stringRef RX9 205 "no such place") (by decide +kernel)) hsa1, vk_R.of (A := #[Value.ref b]) (hts (.stringRef RX9 224 "no such what") (by decide +kernel)) hsa2, va_Nw.of rfl (hts (.castable IOB IOB) (by decide +kernel)), va_Nw.of rfl (hts (.castable NSE NSE) (by decide +kernel)), va_Nc.of (args := #[Value.ref b]) (hgs (.not (.castable NSE IOB)) (by decide +kernel)), fun y hy => va_Nw.of rfl (hts (.declares y) ?_)⟩
    revert y
    decide +kernel
  have C : CxG (p, l, e, room_1, s, m, #[Value.ref b], below, meth, c, (fun k => (f k).1, fun k => (f k).2), (fun _ => 0), (aI, aZ, aJ), fun q : Nat => s.heap.size ≤ q) cL_law RL 7 room_1 := ⟨hx, hb, hml, hown, hbx, hK, hN, fun a h => h, rfl⟩
  have hbA : ¬ (fun q : Nat => s.heap.size ≤ q) b := Nat.not_le.mpr hbl
  have hV : VW (p, l, e, room_1, s, m, #[Value.ref b], below, meth, c, (fun k => (f k).1, fun k => (f k).2), (fun _ => 0), (aI, aZ, aJ), fun q : Nat => s.heap.size ≤ q) 7 (lw_Z below #[Value.ref b] s) [] 0 0 0 [(0, .ref b)] [] := by
    refine u_new (ci := 9) (fs := [.null, .null, .null, .null, .null, .null, .null, .null, .null, .null]) C inX9 tyX9 tyX9_ok w_1_0 w_1_1 w_1_2 rfl (fun j hj => by rcases (show j = 0 ∨ j = 1 ∨ j = 2 ∨ j = 3 ∨ j = 4 ∨ j = 5 ∨ j = 6 ∨ j = 7 ∨ j = 8 ∨ j = 9 by omega) with rfl | rfl | rfl | rfl | rfl | rfl | rfl | rfl | rfl | rfl <;> rfl) dL_law_0 (cs' := 1) rfl (ss' := 10) rfl (by decide) (by decide) (n := 3) rfl (fun a => ?_)
    refine u_dup C dL_law_3 rfl (n := 4) rfl ?_
    refine u_ctor (st := [.ref a]) (wr := []) (wc := [(a, .inr (9, [.null, .null, .null, .null, .null, .null, .null, .null, .null, .null]))]) C (c_X9_init a) w_1_9 w_1_8 w_1_2 rfl ⟨by decide +kernel, by decide +kernel, by decide +kernel⟩ w_1_7 ⟨rfl, rfl, by decide, by decide⟩ (cs' := 41) rfl (ss' := 2754) rfl (by decide) (by decide) (Nat.le_of_ble_eq_true rfl) dL_law_4 (n := 7) rfl (fun u => ?_)
    generalize hq1 : (fun k => if k = 0 then a else u k) = q1
    have ea : a = q1 0 := by rw [← hq1]; rfl
    rw [ea]
    refine u_astore_n (L' := [(1, .ref (q1 0)), (0, .ref b)]) C dL_law_7 rfl (by decide) rfl (n := 8) rfl ?_
    refine u_new (ci := 10) (fs := [.null, .int 0, .int 0, .int 0, .int 0, .int 0, .int 0, .null, .int 0, .null, .null, .int 0, .null, .null, .null, .int 0, .int 0, .null, .null, .null, .null, .null, .null, .int 0, .int 0, .int 0, .int 0, .int 0, .int 0, .null, .null, .null, .int 0, .int 0, .null, .null, .null, .int 0, .int 0, .int 0, .int 0, .int 0, .int 0, .int 0, .null, .int 0, .null, .null, .int 0, .long 0, .int 0, .null, .null, .null, .null]) C inX10 tyX10 tyX10_ok w_1_3 w_1_4 w_1_5 rfl (fun j hj => by rcases (show j = 0 ∨ j = 1 ∨ j = 2 ∨ j = 3 ∨ j = 4 ∨ j = 5 ∨ j = 6 ∨ j = 7 ∨ j = 8 ∨ j = 9 ∨ j = 10 ∨ j = 11 ∨ j = 12 ∨ j = 13 ∨ j = 14 ∨ j = 15 ∨ j = 16 ∨ j = 17 ∨ j = 18 ∨ j = 19 ∨ j = 20 ∨ j = 21 ∨ j = 22 ∨ j = 23 ∨ j = 24 ∨ j = 25 ∨ j = 26 ∨ j = 27 ∨ j = 28 ∨ j = 29 ∨ j = 30 ∨ j = 31 ∨ j = 32 ∨ j = 33 ∨ j = 34 ∨ j = 35 ∨ j = 36 ∨ j = 37 ∨ j = 38 ∨ j = 39 ∨ j = 40 ∨ j = 41 ∨ j = 42 ∨ j = 43 ∨ j = 44 ∨ j = 45 ∨ j = 46 ∨ j = 47 ∨ j = 48 ∨ j = 49 ∨ j = 50 ∨ j = 51 ∨ j = 52 ∨ j = 53 ∨ j = 54 by omega) with rfl | rfl | rfl | rfl | rfl | rfl | rfl | rfl | rfl | rfl | rfl | rfl | rfl | rfl | rfl | rfl | rfl | rfl | rfl | rfl | rfl | rfl | rfl | rfl | rfl | rfl | rfl | rfl | rfl | rfl | rfl | rfl | rfl | rfl | rfl | rfl | rfl | rfl | rfl | rfl | rfl | rfl | rfl | rfl | rfl | rfl | rfl | rfl | rfl | rfl | rfl | rfl | rfl | rfl | rfl <;> rfl) dL_law_8 (cs' := 42) rfl (ss' := 2809) rfl (by decide) (by decide) (n := 11) rfl (fun a2 => ?_)
    refine u_dup C dL_law_11 rfl (n := 12) rfl ?_
    refine u_ctor (st := [.ref a2]) (wr := WX q1 (aI, aZ, aJ) S0) (wc := [(a2, .inr (10, [.null, .int 0, .int 0, .int 0, .int 0, .int 0, .int 0, .null, .int 0, .null, .null, .int 0, .null, .null, .null, .int 0, .int 0, .null, .null, .null, .null, .null, .null, .int 0, .int 0, .int 0, .int 0, .int 0, .int 0, .null, .null, .null, .int 0, .int 0, .null, .null, .null, .int 0, .int 0, .int 0, .int 0, .int 0, .int 0, .int 0, .null, .int 0, .null, .null, .int 0, .long 0, .int 0, .null, .null, .null, .null]))]) C (c_X10_init a2) w_7_3 w_7_2 w_1_5 rfl ⟨by decide +kernel, by decide +kernel, by decide +kernel⟩ w_7_1 ⟨rfl, rfl, by decide, by decide⟩ (cs' := 68) rfl (ss' := 201529) rfl (by decide) (by decide) (Nat.le_of_ble_eq_true rfl) dL_law_12 (n := 15) rfl (fun u2 => ?_)
    generalize hq2 : (fun k => if k = 0 then a2 else u2 k) = q2
    have ea2 : a2 = q2 0 := by rw [← hq2]; rfl
    rw [ea2]
    refine u_astore_n (L' := [(2, .ref (q2 0)), (1, .ref (q1 0)), (0, .ref b)]) C dL_law_15 rfl (by decide) rfl (n := 16) rfl ?_
    refine u_iconst (v := 1) C dL_law_16 (by decide) (n := 17) rfl ?_
    refine u_newJ (N := 1) C w_1_6 dL_law_17 (by decide) (by decide) (by decide) (cs' := 69) rfl (ss' := 201530) rfl (by decide) (by decide) (n := 19) rfl (fun ao => ?_)
    refine u_astore_n (L' := [(3, .ref ao), (2, .ref (q2 0)), (1, .ref (q1 0)), (0, .ref b)]) C dL_law_19 rfl (by decide) rfl (n := 20) rfl ?_
    refine u_iconst (v := 0) C dL_law_20 (by decide) (n := 21) rfl ?_
    refine u_istore (L' := [(4, .int 0), (3, .ref ao), (2, .ref (q2 0)), (1, .ref (q1 0)), (0, .ref b)]) C dL_law_21 (by decide) rfl (n := 23) rfl ?_
    refine u_sub [4, 3, 2, 1, 0] rfl ?_
    refine u_rear ?_
    have C2 : CxG (p, l, e, room_1, s, m, #[Value.ref b], below, meth, c, (fun k => (f k).1, fun k => (f k).2), q1, (aI, aZ, aJ), fun q : Nat => s.heap.size ≤ q) cL_law RL 7 room_1 := ⟨hx, hb, hml, hown, hbx, hK, hN, fun a h => h, rfl⟩
    have g := law_loop (q2 := q2) (ao := ao) (Q := lw_Z below #[Value.ref b] s) C2 hs ⟨hX, hbl, hbA⟩ hL hst hXS (fun S T fo cs ss L hc hs2 => by
      refine u_iconst (v := 1) C2 dL_law_876 (by decide) (n := 877) rfl ?_
      intro H locs ls h hP hD hS
      refine va_forget (fun q hq => hS.2.2 q hq) ?_
      refine W.widen (k := 601024) (n := 7293033) hc hs2 ?_
      exact lw_ret hx hb hr hlocks dL_law_877) 600 0 S0 T0 (fun _ => 0) 0 (by omega) rfl (by omega) hR0
    exact g
  have hl := lv_entry ([.ref b]) (n := 7) (Nat.le_of_ble_eq_true rfl)
  rw [lg_entry_eq]
  exact hV s.heap [] _ hl (fun k q h => by simp at h) ⟨fun i j p q h => by simp at h, fun k q h => by simp at h⟩ va_S.rf
set_option maxHeartbeats 4000000 in
theorem lw_walk {Rel : St → St → Prop} (hs : StepAll Rel) (h0 : Rel S0 T0) (l : Launch) (hst : l.stackTraces = false) (b : Addr) (xs : List Int32) : MetFree l x (headSpec (Jvm.Cond.code x code maxLocals ret :: tables_1) room_1) (lw_P b xs) (fun _ _ _ _ _ => True) lw_Q := by
  refine MetFree.of_bodyS (code := code) (maxLocals := maxLocals) (ret := ret) (by decide) ?_ ?_
  · intro args s m h hn
    obtain ⟨meth, c, h1, h2, h3, h4, h5, h6, -, -⟩ := Cond.code_spec hn (atoms_spec (ws := Jvm.Cond.code x code maxLocals ret :: tables_1) h _ List.mem_cons_self)
    exact ⟨meth, c, h1, h2, h3, h4, h5, h6⟩
  · intro p e s m args below meth c s₁ B hml0 hP _
    obtain ⟨rfl, hx, hbd, hgv⟩ := hP
    obtain ⟨scr, harrAt, hlist, hof, hsmall⟩ := hx
    obtain ⟨hcb, hkn, -, -⟩ := State.arrayAt?_spec harrAt
    have hown : s.vm.findClass RL = some m.cls := findClass_of_methodNamed B.named
    have hts0 : ∀ c ∈ (Jvm.Cond.code x code maxLocals ret :: tables_1), c.before #[Value.ref b] s = true := atoms_spec (ws := Jvm.Cond.code x code maxLocals ret :: tables_1) B.pre
    have hts : ∀ w ∈ lw_tbl, w.before #[Value.ref b] s = true := k2_hts_sels lw_privs (fun w hw => hts0 w (List.mem_cons_of_mem _ hw)) lw_privs_ok
    have hml : c.maxLocals = 7 := B.maxLocals_eq (hts0 _ List.mem_cons_self)
    have X₀ : Stand p l e room_1 s m #[Value.ref b] below meth c s₁ [] 0 0 := Stand.of_body B
    have hh0 : s₁.heap = s.heap := by rw [B.state]; rfl
    have hsz : scr.slots.size = xs.length := by rw [← Array.length_toList, hlist, List.length_map]
    have hval : ∀ j : Nat, j < xs.length → scr.slots[j]? = some (.int (xs.getD j 0)) := fun j hj => by
      rw [← Array.getElem?_toList, hlist]
      simp [hj]
    have hbl : b < s.heap.size := (Array.getElem?_eq_some_iff.mp hcb).1
    have hX : va_X b xs.length (fun j => xs.getD j 0) s s.heap := ⟨scr, hcb, hof, hkn, hsz, hval⟩
    have K : W p l e room_1 s m #[Value.ref b] below meth c s₁.heap [] 0 0 (lw_Z below #[Value.ref b] s) (entryFrame m ([Value.ref b] : List Value).toArray 7) := by
      rw [hh0]
      exact whole_start l hst hs h0 hbd ⟨B.exec, B.bytes, B.returns, hml, hown, hts, hX, hbl, B.notSynchronized, hgv⟩
    obtain ⟨t, a1, o, b1, b2, b3⟩ := K s₁ rfl X₀
    exact ⟨t, o, a1, b1, b2, b3⟩
theorem lw_pre_spec {args : Array Value} {s : State} (h : (Jvm.Cond.and given_1 narrow_1).before args s = true) (hr : rest_1_c.before args s = true) : ∃ (b : Addr) (xs : List Int32), lw_P b xs args s := by
  have hs := flat_of_before _ h
  have hq := flat_of_before _ hr
  have hc : (Cond.count 1).before args s = true := hs _ (by decide +kernel)
  have harr : (Cond.arrayOf (.arg 0) .int).before args s = true := hs _ (by decide +kernel)
  have hle : (Cond.le (.length (.arg 0)) (.int 3072)).before args s = true := hs _ (by decide +kernel)
  have hlen : (Cond.isInt (.length (.arg 0))).before args s = true := hq _ (by decide +kernel)
  have hall : (Cond.all (.arg 0) (.isInt (.elem (.arg 0) (.index 0)))).before args s = true := hq _ (by decide +kernel)
  obtain ⟨b, xs, hb, hx⟩ := State.ints_of_pre rfl harr hlen hall
  have hsm : xs.length < 2 ^ 31 := hx.choose_spec.2.2.2
  have hev : (Term.length (.arg 0)).eval args s none [] s = some (.int xs.length.toInt32) := hx.length_eval hb
  have hv := Cond.le_ints hev (show (Term.int 3072).eval args s none [] s = some (.int 3072) from rfl)
  have hd : xs.length.toInt32 ≤ 3072 := by
    simpa [Cond.before, Cond.holds, hv] using hle
  have hN : xs.length ≤ 3072 := (Int32.ofNat_le_ofNat hsm (by decide)).mp (show Int32.ofNat xs.length ≤ Int32.ofNat 3072 from hd)
  exact ⟨b, xs, Cond.one_arg hc (show args[0]? = some (.ref b) from hb), hx, hN, h⟩
theorem lw_comes {Rel : St → St → Prop} (hs : StepAll Rel) (h0 : Rel S0 T0) (l : Launch) (hst : l.stackTraces = false) : Comes l x (Jvm.Cond.code x code maxLocals ret :: tables_1) room_1 (fun tb e args s => Calls_1 tb e args s ∧ rest_1 tb e args s ∧ Pre_1 tb e args s)
    (fun _ _ args s o t => lw_Q args s o t) := by
  intro p e ha hc hk s m args below hf hfit hheap happ hpre
  obtain ⟨b, xs, hP⟩ := lw_pre_spec hpre.2.2 hpre.2.1
  obtain ⟨k, o, h1, h2, h3, hQ⟩ := lw_walk hs h0 l hst b xs p e ha hc hk s m args below hf ((Spec.applies_iff_loose hf).mp happ).1 hP trivial
  exact ⟨k, o, h1, h2, h3, hQ⟩
theorem lw_frame {s t : State} {o : Outcome} {args : Array Value} (h : Framed s o t [] 601024 7293033) :
    Framed s o t (fieldLocs frame_1_writes args s ++ arrayLocs frame_1_arrays args s ++ staticLocs frame_1_statics s) 601024 7293033 := h
theorem lw_limb {Rel : St → St → Prop} (hs : StepAll Rel) (h0 : Rel S0 T0) (L : Cond) (hL : ∀ (args : Array Value) (s t : State), L.after args s (.returned (some (.int 1))) t = true) :
    ArmFor flags0 classFile x code maxLocals ret World_1 tables_1 room_1 Calls_1 rest_1 Pre_1
      (fun tb e a s o t => postC L tb e a s o t ∧ Framed s o t (fieldLocs frame_1_writes a s ++ arrayLocs frame_1_arrays a s ++ staticLocs frame_1_statics s) 601024 7293033) := by
  intro l hfl _ _ p e ha hc hk s m args below hf hfit hheap happ hpre
  obtain ⟨k, o, h1, h2, h3, rfl, hF⟩ := lw_comes hs h0 l (by unfold Launch.stackTraces; rw [hfl]; decide +kernel) p e ha hc hk s m args below hf hfit hheap happ hpre
  exact ⟨k, _, h1, h2, h3, hL args s _, lw_frame hF⟩
theorem vc_of {Rel : St → St → Prop} (hs : StepAll Rel) (h0 : Rel S0 T0) : Claimed_1_1 ∧ Claimed_1_2 := ⟨lw_limb hs h0 limb_1_1 (fun args s t => by simp [limb_1_1, Cond.after, Cond.holds, Cond.value]), lw_limb hs h0 limb_1_2 (fun args s t => Cond.after_iff.mpr (by
  first | (rw [show limb_1_2 = Cond.eq .result (.int 1) from rfl, Cond.eq_ints (x := 1) (y := 1) rfl rfl]; simp; done) | (simp [limb_1_2, Cond.value, Term.eval]; done)))⟩

