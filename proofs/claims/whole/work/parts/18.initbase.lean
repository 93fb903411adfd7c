/-! worlds side by side -/
theorem P_app {D : va_G} {cl : List vw_C} {w1 w2 : va_W} {H : Heap} (h : va_P D cl (w1 ++ w2) H) : va_P D cl w1 H ∧ va_P D cl w2 H := by
  constructor
  · intro k q hk
    have hl : k < w1.length := (List.getElem?_eq_some_iff.mp hk).1
    exact h k q (by rw [List.getElem?_append_left hl]; exact hk)
  · intro k q hk
    exact h (w1.length + k) q (by rw [List.getElem?_append_right (Nat.le_add_right _ _), Nat.add_sub_cancel_left]; exact hk)
theorem D_app {A : Nat → Prop} {w1 w2 : va_W} (h : va_D A (w1 ++ w2)) : va_D A w1 ∧ va_D A w2 ∧ ∀ (i j : Nat) (p q : Nat × va_E), w1[i]? = some p → w2[j]? = some q → p.1 ≠ q.1 := by
  have g1 : ∀ (k : Nat) (q : Nat × va_E), w1[k]? = some q → (w1 ++ w2)[k]? = some q := fun k q hk => by
    rw [List.getElem?_append_left (List.getElem?_eq_some_iff.mp hk).1]; exact hk
  have g2 : ∀ (k : Nat) (q : Nat × va_E), w2[k]? = some q → (w1 ++ w2)[w1.length + k]? = some q := fun k q hk => by
    rw [List.getElem?_append_right (Nat.le_add_right _ _), Nat.add_sub_cancel_left]; exact hk
  refine ⟨⟨fun i j p q hi hj e => h.1 i j p q (g1 i p hi) (g1 j q hj) e, fun k q hk => h.2 k q (g1 k q hk)⟩, ⟨fun i j p q hi hj e => ?_, fun k q hk => h.2 _ q (g2 k q hk)⟩, fun i j p q hi hj e => ?_⟩
  · have := h.1 _ _ p q (g2 i p hi) (g2 j q hj) e
    omega
  · have hl : i < w1.length := (List.getElem?_eq_some_iff.mp hi).1
    have := h.1 _ _ p q (g1 i p hi) (g2 j q hj) e
    omega
/-- behind a call: the callee's cells wc became w1, the others wr stay -/
theorem join_app {A0 : Nat → Prop} {D : va_G} {cl : List vw_C} {wr wc w1 : va_W} {H H1 : Heap} (hP : va_P D cl (wr ++ wc) H) (hD : va_D A0 (wr ++ wc)) (hk : ∀ q : Nat, q < H.size → ¬ va_A wc H.size q → H1[q]? = H[q]?) (hF : ∀ q, va_A wc H.size q → A0 q) (hP1 : va_P D cl w1 H1) (hD1 : va_D (va_A wc H.size) w1) : va_P D cl (wr ++ w1) H1 ∧ va_D A0 (wr ++ w1) := by
  obtain ⟨hPr, hPc⟩ := P_app hP
  obtain ⟨hDr, hDc, hx⟩ := D_app hD
  have apart : ∀ (k : Nat) (q : Nat × va_E), wr[k]? = some q → q.1 < H.size ∧ ¬ va_A wc H.size q.1 := by
    intro k q hq
    have hl := (hPr k q hq).lt
    refine ⟨hl, fun h => ?_⟩
    rcases h with ⟨k2, e, h⟩ | h
    · exact hx k k2 q (q.1, e) hq h rfl
    · omega
  refine ⟨va_P.app (fun k q hq => (hPr k q hq).kept (hk q.1 (apart k q hq).1 (apart k q hq).2)) hP1, va_D.app hDr (hD1.weaken (fun k q _ h => hF q.1 h)) (fun i j p q hi hj e => ?_)⟩
  exact (apart i p hi).2 (by rw [e]; exact hD1.2 j q hj)
/-! constructors -/
def CxC (x : Ctx) (cc : ByteArray) (own : String) (nL : Nat) (rm : Room) : Prop := match x with
  | (p, _, _, R, s, m, args, _, meth, c, D, _, ar, A) => p.tables.exec = Jvm.exec ∧ c.code = cc ∧ c.maxLocals = nL ∧ s.vm.findClass own = some m.cls ∧ (∀ w ∈ wsL_law0, w.before args s = true) ∧ va_K D vwCl (tyl ar) s ∧ NW s ∧ meth.locks = false ∧ (∀ a, s.heap.size ≤ a → A a) ∧ R = rm ∧ meth.sig.returnType = none ∧ meth.name = "<init>"
def VW (x : Ctx) (nL : Nat) (Q : State → Prop) (ws : va_W) (cs ss pc : Nat) (L : List (Nat × Value)) (st : List Value) : Prop := match x with
  | (p, l, e, R, s, m, args, below, meth, c, D, _, _, A) => ∀ (H : Heap) (locs : List Loc) (ls : Array Slot), lv_has ls nL L → va_P D vwCl ws H → va_D A ws → va_S A s.heap H locs → W p l e R s m args below meth c H locs cs ss Q (F0 m pc ls st)
def QC (x : Ctx) (W1 : (Nat → Nat) → va_W) (mc ms : Nat) : State → Prop := match x with
  | (_, _, _, _, s, _, args, below, _, _, D, _, _, A) => MQ below (va_Qv (fun _ : Nat → Nat => True) (fun u t => va_P D vwCl (W1 u) t.heap ∧ va_D A (W1 u)) A) args s mc ms A
def PreW (D : va_G) (ar : Ar) (ws : va_W) (sz : Nat) (U : State) : Prop := U.heap.size = sz ∧ va_P D vwCl ws U.heap ∧ va_K D vwCl (tyl ar) U ∧ va_D (fun _ => True) ws ∧ NW U
def MetC (l : Launch) (D : va_G) (ar : Ar) (y : MethodName) (cc : ByteArray) (nL : Nat) (rm : Room) (av : List Value) (ws : va_W) (W1 : (Nat → Nat) → va_W) (mc ms : Nat) : Prop :=
  ∀ sz : Nat, Met l y (Cond.code y cc nL none :: wsL_law0) rm (va_Pc av (PreW D ar ws sz)) (va_Qv (fun _ : Nat → Nat => True) (fun u t => va_P D vwCl (W1 u) t.heap ∧ va_D (va_A ws sz) (W1 u)) (va_A ws sz)) mc ms (va_A ws sz)
theorem PreW.blind {av : List Value} {D : va_G} {ar : Ar} {ws : va_W} {sz : Nat} : FrameBlind (va_Pc av (PreW D ar ws sz)) := by
  intro a U g mk h
  obtain ⟨h0, h1, hP, hK, hD, hN⟩ := h
  exact ⟨h0, h1, hP, va_K.moved (u := U) (U := U.calling g mk a) (Vm.Alike.refl U.vm) hK, hD, NW.same (u := U) (U := U.calling g mk a) rfl hN⟩
theorem metC_of {l : Launch} {D : va_G} {ar : Ar} {y : MethodName} {cc : ByteArray} {nL : Nat} {rm : Room} {av : List Value} {ws : va_W} {W1 : (Nat → Nat) → va_W} {mc ms : Nat} (hy : plainName y.cls = true) (hi : y.name = "<init>") (hl : (lg_sl av).length ≤ nL)
    (body : ∀ x : Ctx, xl x = l → xD x = D → xr x = ar → CxC x cc y.cls nL rm → VW x nL (QC x W1 mc ms) ws 0 0 0 (lv_args 0 av) []) : MetC l D ar y cc nL rm av ws W1 mc ms := by
  intro sz
  refine Met.ofW (cc := cc) (maxL := nL) (ret := none) hy rfl ?_
  intro p e s m args below meth c s₁ B hml hv
  obtain ⟨rfl, hsz, hP, hK, hD, hN⟩ := hv
  subst hsz
  have hts := atoms_spec (ws := Cond.code y cc nL none :: wsL_law0) B.pre
  have C : CxC (p, l, e, rm, s, m, av.toArray, below, meth, c, D, (fun _ => 0), ar, va_A ws s.heap.size) cc y.cls nL rm := ⟨B.exec, B.bytes, hml, findClass_of_methodNamed B.named, fun w h => hts w (List.mem_cons_of_mem _ h), hK, hN, B.notSynchronized, fun a h => Or.inr h, rfl, B.returns, (name_of_methodNamed B.named B.method).1.trans hi⟩
  have h := body _ rfl rfl rfl C
  rw [lg_entry_eq]
  exact h s.heap [] _ (lv_entry av hl) hP hD.self va_S.rf
section IRules
variable {x : Ctx} {cc : ByteArray} {own : String} {nL : Nat} {rm : Room} {Q : State → Prop} {ws ws' wr wc : va_W} {cs ss cs' ss' pc n : Nat} {L L' : List (Nat × Value)} {st st0 : List Value}
theorem w_perm (is : List Nat) (hn : va_nd is = true) (h1 : is.map (fun i => ws[i]?) = ws'.map some) (h2 : is.filterMap (fun i => ws[i]?) = ws') (k : VW x nL Q ws' cs ss pc L st) : VW x nL Q ws cs ss pc L st := by
  obtain ⟨p, l, en, R, s, m, args, below, meth, c, D, q, ar, A⟩ := x
  exact fun H locs ls h hP hD hS => k H locs ls h (hP.sub is h2) (hD.sub is hn h1) hS
theorem w_iconst (C : CxC x cc own nL rm) {z : Int} {v : Int32} (hd : decode cc pc = .ok (.iconst z, 1)) (hv : Int32.ofInt z = v) (hn : pc + 1 = n) (k : VW x nL Q ws cs ss n L (.int v :: st)) : VW x nL Q ws cs ss pc L st := by
  obtain ⟨p, l, en, R, s, m, args, below, meth, c, D, q, ar, A⟩ := x
  subst hn
  exact fun H locs ls h hP hD hS => lv_iconst C.1 C.2.1 hd hv (k H locs ls h hP hD hS)
theorem w_bipush (C : CxC x cc own nL rm) {z : Int} {v : Int32} (hd : decode cc pc = .ok (.bipush z, 2)) (hv : (Int8.ofInt z).toInt32 = v) (hn : pc + 2 = n) (k : VW x nL Q ws cs ss n L (.int v :: st)) : VW x nL Q ws cs ss pc L st := by
  obtain ⟨p, l, en, R, s, m, args, below, meth, c, D, q, ar, A⟩ := x
  subst hn
  exact fun H locs ls h hP hD hS => lv_bipush C.1 C.2.1 hd hv (k H locs ls h hP hD hS)
theorem w_sipush (C : CxC x cc own nL rm) {z : Int} {v : Int32} (hd : decode cc pc = .ok (.sipush z, 3)) (hv : (Int16.ofInt z).toInt32 = v) (hn : pc + 3 = n) (k : VW x nL Q ws cs ss n L (.int v :: st)) : VW x nL Q ws cs ss pc L st := by
  obtain ⟨p, l, en, R, s, m, args, below, meth, c, D, q, ar, A⟩ := x
  subst hn
  exact fun H locs ls h hP hD hS => lv_sipush C.1 C.2.1 hd hv (k H locs ls h hP hD hS)
theorem w_ldc (C : CxC x cc own nL rm) {idx : Nat} {v : Int32} (hw : Cond.constant own idx v ∈ wsL_law0) (hd : decode cc pc = .ok (.ldc idx, 2)) (hn : pc + 2 = n) (k : VW x nL Q ws cs ss n L (.int v :: st)) : VW x nL Q ws cs ss pc L st := by
  obtain ⟨p, l, en, R, s, m, args, below, meth, c, D, q, ar, A⟩ := x
  subst hn
  exact fun H locs ls h hP hD hS => lv_ldc C.1 C.2.1 C.2.2.2.1 (C.2.2.2.2.1 _ hw) hd (k H locs ls h hP hD hS)
theorem w_aload_n (C : CxC x cc own nL rm) {z : Fin 4} {i : Nat} {a : Nat} (j : Nat) (hd : decode cc pc = .ok (.aload_n z, 1)) (hi : (z : Nat) = i) (hj : L[j]? = some (i, .ref a)) (hn : pc + 1 = n) (k : VW x nL Q ws cs ss n L (.ref a :: st)) : VW x nL Q ws cs ss pc L st := by
  obtain ⟨p, l, en, R, s, m, args, below, meth, c, D, q, ar, A⟩ := x
  subst hn
  exact fun H locs ls h hP hD hS => lv_aload_n C.1 C.2.1 hd hi (lv_at h j hj) (k H locs ls h hP hD hS)
theorem w_dup (C : CxC x cc own nL rm) {v : Value} (hd : decode cc pc = .ok (.dup, 1)) (hc : v.category = 1) (hn : pc + 1 = n) (k : VW x nL Q ws cs ss n L (v :: v :: st)) : VW x nL Q ws cs ss pc L (v :: st) := by
  obtain ⟨p, l, en, R, s, m, args, below, meth, c, D, q, ar, A⟩ := x
  subst hn
  exact fun H locs ls h hP hD hS => lv_dup C.1 C.2.1 hd hc (k H locs ls h hP hD hS)
theorem w_obj (C : CxC x cc own nL rm) {idx a : Nat} (hlk : Cond.methodLink own idx objectInit ∈ wsL_law0) (hin : Cond.instanceMethod objectInit ∈ wsL_law0) (hcode : Cond.code objectInit ⟨#[0xb1]⟩ 1 none ∈ wsL_law0) (hd : decode cc pc = .ok (.invokespecial idx, 3)) (hf : 1 ≤ rm.frames) (hlo : (st.map fun v => v.category).sum + 12 ≤ rm.locals) (hn : pc + 3 = n) (k : VW x nL Q ws cs ss n L st) : VW x nL Q ws cs ss pc L (.ref a :: st) := by
  obtain ⟨p, l, en, R, s, m, args, below, meth, c, D, q, ar, A⟩ := x
  obtain ⟨hx, hb, hml, hown, hts, hK, hN, hlk2, hA, hR, hr, hi⟩ := C
  subst hn; subst hR
  intro H locs ls h hP hD hS
  refine W.objInit hx hb hown (hts _ hlk) (hts _ hin) (hts _ hcode) rfl (by rw [hml]; exact h.1) rfl hd hf (by show 2 * 0 + _ + 12 ≤ _; omega) ?_
  exact k H locs ls h hP hD hS
theorem w_get (C : CxC x cc own nL rm) {k ci i N idx a : Nat} {fs : List Value} {v : Value} {Cn : String} {T : u_T} (hg : ws[k]? = some (a, .inr (ci, fs))) (hc : vwCl[ci]? = some (Cn, T, N)) (hi : i < N) (hv : fs[i]? = some v) (hin : ∀ w ∈ u_ws Cn T N, w ∈ wsL_law0)
    (hlk : Cond.fieldLink own idx (T i).1 (T i).2.1 (T i).2.2.1 ∈ wsL_law0) (hd : decode cc pc = .ok (.getfield idx, 3)) (hn : pc + 3 = n) (kk : VW x nL Q ws cs ss n L (v :: st)) : VW x nL Q ws cs ss pc L (.ref a :: st) := by
  obtain ⟨p, l, en, R, s, m, args, below, meth, c, D, q, ar, A⟩ := x
  obtain ⟨hx, hb, hml, hown, hts, hK, hN, hlk2, hA, hR, hr, hin2⟩ := C
  subst hn
  exact fun H locs ls h hP hD hS => va_get hx hb hts hin hown hK hP k hg hc i hi (hts _ hlk) (fun _ h9 => h9) hv hd (kk H locs ls h hP hD hS)
theorem w_put (C : CxC x cc own nL rm) {k ci i N idx a : Nat} {fs : List Value} {v : Value} {Cn : String} {T : u_T} {ty : FieldType} (hg : ws[k]? = some (a, .inr (ci, fs))) (hc : vwCl[ci]? = some (Cn, T, N)) (hi : i < N) (hl : i < fs.length) (hin : ∀ w ∈ u_ws Cn T N, w ∈ wsL_law0)
    (ty0 : Nat → FieldType) (hty : ∀ k, k < N → parseFieldDescriptor (T k).2.2.1 = some (ty0 k)) (hnm : ∀ a, a < N → ∀ b, b < N → a ≠ b → (T a).2.1 ≠ (T b).2.1) (hfin : (T i).2.2.2 = false) (hpd : parseFieldDescriptor (T i).2.2.1 = some ty) (hna : narrow ty v = v) (hfit : fits ty v = true)
    (hlk : Cond.fieldLink own idx (T i).1 (T i).2.1 (T i).2.2.1 ∈ wsL_law0) (hd : decode cc pc = .ok (.putfield idx, 3)) (hn : pc + 3 = n)
    (hset : ws.set k (a, .inr (ci, fs.set i v)) = ws') (kk : VW x nL Q ws' cs ss n L st) : VW x nL Q ws cs ss pc L (v :: .ref a :: st) := by
  obtain ⟨p, l, en, R, s, m, args, below, meth, c, D, q, ar, A⟩ := x
  obtain ⟨hx, hb, hml, hown, hts, hK, hN, hlk2, hA, hR, hr, hin2⟩ := C
  subst hn; subst hset
  exact fun H locs ls h hP hD hS => va_put hx hb hts hin ty0 hty hnm hown hK hP hD hS k hg hc i hi (hts _ hlk) (fun _ h9 => h9) hfin hpd hna hfit hl hd (fun H1 locs1 hP1 hD1 hS1 => kk H1 locs1 ls h hP1 hD1 hS1)
theorem w_putF (C : CxC x cc own nL rm) {k ci i N idx a : Nat} {fs : List Value} {v : Value} {Cn : String} {T : u_T} {ty : FieldType} (hg : ws[k]? = some (a, .inr (ci, fs))) (hc : vwCl[ci]? = some (Cn, T, N)) (hi : i < N) (hl : i < fs.length) (hin : ∀ w ∈ u_ws Cn T N, w ∈ wsL_law0)
    (ty0 : Nat → FieldType) (hty : ∀ k, k < N → parseFieldDescriptor (T k).2.2.1 = some (ty0 k)) (hnm : ∀ a, a < N → ∀ b, b < N → a ≠ b → (T a).2.1 ≠ (T b).2.1) (hfin : (T i).2.2.2 = true) (hdecl : (T i).1 = own) (hpd : parseFieldDescriptor (T i).2.2.1 = some ty) (hna : narrow ty v = v) (hfit : fits ty v = true)
    (hlk : Cond.fieldLink own idx (T i).1 (T i).2.1 (T i).2.2.1 ∈ wsL_law0) (hd : decode cc pc = .ok (.putfield idx, 3)) (hn : pc + 3 = n)
    (hset : ws.set k (a, .inr (ci, fs.set i v)) = ws') (kk : VW x nL Q ws' cs ss n L st) : VW x nL Q ws cs ss pc L (v :: .ref a :: st) := by
  obtain ⟨p, l, en, R, s, m, args, below, meth, c, D, q, ar, A⟩ := x
  obtain ⟨hx, hb, hml, hown, hts, hK, hN, hlk2, hA, hR, hr, hin2⟩ := C
  subst hn; subst hset
  exact fun H locs ls h hP hD hS => va_putF hx hb hts hin ty0 hty hnm hown hK hP hD hS k hg hc i hi (hts _ hlk) (fun _ h9 => h9) hfin hin2 hdecl hpd hna hfit hl hd (fun H1 locs1 hP1 hD1 hS1 => kk H1 locs1 ls h hP1 hD1 hS1)
theorem w_newI (C : CxC x cc own nL rm) {v : Int32} {N : Nat} (hw : Cond.arrayClass .int ∈ wsL_law0) (hd : decode cc pc = .ok (.newarray .int, 2)) (hv : ¬ v < 0) (hN : v.toNatClampNeg = N) (hby : N * 4 ≤ 536870912) (hc : cs + 1 = cs') (hs : ss + N = ss') (hcR : cs' ≤ rm.cells) (hsR : ss' ≤ rm.slots) (hn : pc + 2 = n)
    (kk : ∀ a : Nat, VW x nL Q (ws ++ [(a, .inl ((xr x).1, N, .inl (fun _ => 0)))]) cs' ss' n L (.ref a :: st)) : VW x nL Q ws cs ss pc L (.int v :: st) := by
  obtain ⟨p, l, en, R, s, m, args, below, meth, c, D, q, ar, A⟩ := x
  obtain ⟨hx, hb, hml, hown, hts, hK, hN2, hlk2, hA, hR, hr, hin2⟩ := C
  subst hn; subst hc; subst hs; subst hR
  intro H locs ls h hP hD hS
  refine va_newa (atype := .int) (ty := .int) (N' := N) (a0 := (N, .inl (fun _ => 0))) hx hb (hts _ hw) rfl hK hP hD hS hA (fun cA => rfl) hv hN hby hcR hsR hd (fun b cA H1 hK1 hP1 hD1 hS1 => ?_)
  have e1 : s.vm.findClass _ = some cA := (hK1.2 3 (cA, .int) rfl).2
  have e2 : s.vm.findClass _ = some ar.1 := (hK1.2 0 (ar.1, .int) rfl).2
  have e3 : cA = ar.1 := Option.some.inj (e1.symm.trans e2)
  subst e3
  exact kk b H1 locs ls h hP1 hD1 hS1
theorem w_newZ (C : CxC x cc own nL rm) {v : Int32} {N : Nat} (hw : Cond.arrayClass .boolean ∈ wsL_law0) (hd : decode cc pc = .ok (.newarray .boolean, 2)) (hv : ¬ v < 0) (hN : v.toNatClampNeg = N) (hby : N * 1 ≤ 536870912) (hc : cs + 1 = cs') (hs : ss + N = ss') (hcR : cs' ≤ rm.cells) (hsR : ss' ≤ rm.slots) (hn : pc + 2 = n)
    (kk : ∀ a : Nat, VW x nL Q (ws ++ [(a, .inl ((xr x).2.1, N, .inl (fun _ => 0)))]) cs' ss' n L (.ref a :: st)) : VW x nL Q ws cs ss pc L (.int v :: st) := by
  obtain ⟨p, l, en, R, s, m, args, below, meth, c, D, q, ar, A⟩ := x
  obtain ⟨hx, hb, hml, hown, hts, hK, hN2, hlk2, hA, hR, hr, hin2⟩ := C
  subst hn; subst hc; subst hs; subst hR
  intro H locs ls h hP hD hS
  refine va_newa (atype := .boolean) (ty := .boolean) (N' := N) (a0 := (N, .inl (fun _ => 0))) hx hb (hts _ hw) rfl hK hP hD hS hA (fun cA => rfl) hv hN hby hcR hsR hd (fun b cA H1 hK1 hP1 hD1 hS1 => ?_)
  have e1 : s.vm.findClass _ = some cA := (hK1.2 3 (cA, .boolean) rfl).2
  have e2 : s.vm.findClass _ = some ar.2.1 := (hK1.2 1 (ar.2.1, .boolean) rfl).2
  have e3 : cA = ar.2.1 := Option.some.inj (e1.symm.trans e2)
  subst e3
  exact kk b H1 locs ls h hP1 hD1 hS1
theorem w_new (C : CxC x cc own nL rm) {ci N idx : Nat} {fs : List Value} {Cn : String} {T : u_T} (hin : ∀ w ∈ u_ws Cn T N, w ∈ wsL_law0) (ty : Nat → FieldType) (hty : ∀ k, k < N → parseFieldDescriptor (T k).2.2.1 = some (ty k)) (hcl : Cond.classLink own idx Cn ∈ wsL_law0) (hinst : Cond.instantiable Cn N ∈ wsL_law0) (hini : Cond.initialized Cn ∈ wsL_law0) (hc : vwCl[ci]? = some (Cn, T, N)) (hfs : ∀ j, j < N → defaultValue (ty j) = vp_V fs j)
    (hd : decode cc pc = .ok (.new idx, 3)) (hcs : cs + 1 = cs') (hss : ss + N = ss') (hcR : cs' ≤ rm.cells) (hsR : ss' ≤ rm.slots) (hn : pc + 3 = n) (kk : ∀ a : Nat, VW x nL Q (ws ++ [(a, .inr (ci, fs))]) cs' ss' n L (.ref a :: st)) : VW x nL Q ws cs ss pc L st := by
  obtain ⟨p, l, en, R, s, m, args, below, meth, c, D, q, ar, A⟩ := x
  obtain ⟨hx, hb, hml, hown, hts, hK, hN2, hlk2, hA, hR, hr, hin2⟩ := C
  subst hn; subst hcs; subst hss; subst hR
  intro H locs ls h hP hD hS
  exact va_new hx hb hts hin ty hty hown (hts _ hcl) (hts _ hinst) (hts _ hini) hK hP hD hS hA hc hfs hcR hsR hd (fun b H1 hP1 hD1 hS1 => kk b H1 locs ls h hP1 hD1 hS1)
theorem w_iast (C : CxC x cc own nL rm) {k N a : Nat} {f : Nat → Int32} {i v : Int32} {j : Nat} (hg : ws[k]? = some (a, .inl ((xr x).1, N, .inl f))) (hj : i.toNatClampNeg = j) (hin : vp_in i N) (hd : decode cc pc = .ok (.iastore, 1)) (hn : pc + 1 = n)
    (hset : ws.set k (a, .inl ((xr x).1, N, .inl (upd f j v))) = ws') (kk : VW x nL Q ws' cs ss n L st) : VW x nL Q ws cs ss pc L (.int v :: .int i :: .ref a :: st) := by
  obtain ⟨p, l, en, R, s, m, args, below, meth, c, D, q, ar, A⟩ := x
  obtain ⟨hx, hb, hml, hown, hts, hK, hN, hlk2, hA, hR, hr, hin2⟩ := C
  subst hn; subst hset; subst hj
  exact fun H locs ls h hP hD hS => va_iast hx hb hK hP hD hS k 0 hg rfl hin hd (fun H1 locs1 hP1 hD1 hS1 => kk H1 locs1 ls h hP1 hD1 hS1)
theorem w_ret (C : CxC x cc own nL rm) {W1 : (Nat → Nat) → va_W} (u : Nat → Nat) (hw : ws = W1 u) (hd : decode cc pc = .ok (.return_, 1)) : VW x nL (QC x W1 cs ss) ws cs ss pc L [] := by
  obtain ⟨p, l, en, R, s, m, args, below, meth, c, D, q, ar, A⟩ := x
  obtain ⟨hx, hb, hml, hown, hts, hK, hN, hlk2, hA, hR, hr, hin2⟩ := C
  subst hw
  exact fun H locs ls h hP hD hS => W.vret hx hb hr (fun t ht hW => ⟨⟨u, rfl, trivial, by show va_P D vwCl (W1 u) t.heap ∧ va_D A (W1 u); rw [ht]; exact ⟨hP, hD⟩⟩, hS.F ht⟩) hS.2.2 hd
/-- a constructor's call: by its own link, and a nest mate's -/
theorem w_ctor (C : CxC x cc own nL rm) {y : MethodName} {bytes : ByteArray} {mL nA idx b mc ms : Nat} {rm2 : Room} {As : List Value} {W1 : (Nat → Nat) → va_W} (hM : MetC (xl x) (xD x) (xr x) y bytes mL rm2 (.ref b :: As) wc W1 mc ms) (hcode : Cond.code y bytes mL none ∈ wsL_law0) (hinm : Cond.instanceMethod y ∈ wsL_law0) (hini : Cond.initialized y.cls ∈ wsL_law0) (hy1 : y.name = "<init>") (hyd : y.cls ≠ "java/lang/invoke/MethodHandle" ∧ y.cls ≠ "java/lang/invoke/VarHandle" ∧ (parseMethodDescriptor y.desc).map (fun d => d.parameters.length) = some nA)
    (hlk : Cond.methodLink own idx y ∈ wsL_law0) (hF : rm2.cells = mc ∧ rm2.slots = ms ∧ rm2.frames + 1 ≤ rm.frames ∧ 8 + (mL + 11) + rm2.locals ≤ rm.locals) (hcs : cs + mc = cs') (hss : ss + ms = ss') (hcR : cs' ≤ rm.cells) (hsR : ss' ≤ rm.slots) (hAs : As.length = nA) (hst : st0 = As.reverse ++ .ref b :: st) (hw : (st.map fun v => v.category).sum ≤ 8) (hd : decode cc pc = .ok (.invokespecial idx, 3)) (hn : pc + 3 = n) (kk : ∀ u : Nat → Nat, VW x nL Q (wr ++ W1 u) cs' ss' n L st) : VW x nL Q (wr ++ wc) cs ss pc L st0 := by
  obtain ⟨p, l, en, R, s, m, args, below, meth, c, D, q, ar, A⟩ := x
  obtain ⟨hx, hb, hml, hown, hts, hK, hN, hlk2, hA, hR, hr, hin2⟩ := C
  subst hn; subst hcs; subst hss; subst hR; subst hst
  intro H locs ls h hP hD hS
  have hPc := (P_app hP).2
  have hDc := (D_app hD).2.1
  have hFc := inA hDc hS hA
  refine va_callv (va_runI (As := As) (rest := st) ⟨hx, hb, hml, hown, hts⟩ (hM H.size) ⟨callB_of nA hts (good_big hcode) rfl hF.1 hF.2.1 (hts _ hini) (hts _ hlk) hyd hF.2.2, hy1, hts _ hinm⟩ ⟨PreW.blind, fun U hU hW => ⟨rfl, by rw [hU], by rw [hU]; exact hPc, va_K.moved hW.alike hK, hDc.weaken (fun _ _ _ _ => trivial), hN.warm hW⟩⟩ rfl hAs h.1 rfl (lv_room hw) hd ⟨hcR, hsR⟩) hS (fun a _ ha => hFc a ha) hFc (fun u t H1 locs1 ht hvm hw2 hB hz hk hS1 => ?_)
  obtain ⟨hP1, hD1⟩ := hB
  rw [ht] at hP1
  obtain ⟨hP2, hD2⟩ := join_app hP hD hk hFc hP1 hD1
  exact kk u H1 locs1 ls h hP2 hD2 hS1
theorem w_ctorN (C : CxC x cc own nL rm) {y : MethodName} {bytes : ByteArray} {mL nA idx b mc ms : Nat} {host : String} {rm2 : Room} {As : List Value} {W1 : (Nat → Nat) → va_W} (hM : MetC (xl x) (xD x) (xr x) y bytes mL rm2 (.ref b :: As) wc W1 mc ms) (hcode : Cond.code y bytes mL none ∈ wsL_law0) (hinm : Cond.instanceMethod y ∈ wsL_law0) (hini : Cond.initialized y.cls ∈ wsL_law0) (hy1 : y.name = "<init>") (hyd : y.cls ≠ "java/lang/invoke/MethodHandle" ∧ y.cls ≠ "java/lang/invoke/VarHandle" ∧ (parseMethodDescriptor y.desc).map (fun d => d.parameters.length) = some nA)
    (hlk : (own, idx, y, host) ∈ nestW) (hF : rm2.cells = mc ∧ rm2.slots = ms ∧ rm2.frames + 1 ≤ rm.frames ∧ 8 + (mL + 11) + rm2.locals ≤ rm.locals) (hcs : cs + mc = cs') (hss : ss + ms = ss') (hcR : cs' ≤ rm.cells) (hsR : ss' ≤ rm.slots) (hAs : As.length = nA) (hst : st0 = As.reverse ++ .ref b :: st) (hw : (st.map fun v => v.category).sum ≤ 8) (hd : decode cc pc = .ok (.invokespecial idx, 3)) (hn : pc + 3 = n) (kk : ∀ u : Nat → Nat, VW x nL Q (wr ++ W1 u) cs' ss' n L st) : VW x nL Q (wr ++ wc) cs ss pc L st0 := by
  obtain ⟨p, l, en, R, s, m, args, below, meth, c, D, q, ar, A⟩ := x
  obtain ⟨hx, hb, hml, hown, hts, hK, hN, hlk2, hA, hR, hr, hin2⟩ := C
  subst hn; subst hcs; subst hss; subst hR; subst hst
  intro H locs ls h hP hD hS
  have hPc := (P_app hP).2
  have hDc := (D_app hD).2.1
  have hFc := inA hDc hS hA
  refine va_callv (va_runIN (As := As) (rest := st) ⟨hx, hb, hml, hown, hts⟩ (hM H.size) ⟨va_cnB nA hts (good_big hcode) rfl hF.1 hF.2.1 (hN _ hlk) (hts _ hini) hyd hF.2.2, hy1, hts _ hinm⟩ ⟨PreW.blind, fun U hU hW => ⟨rfl, by rw [hU], by rw [hU]; exact hPc, va_K.moved hW.alike hK, hDc.weaken (fun _ _ _ _ => trivial), hN.warm hW⟩⟩ rfl hAs h.1 rfl (lv_room hw) hd ⟨hcR, hsR⟩) hS (fun a _ ha => hFc a ha) hFc (fun u t H1 locs1 ht hvm hw2 hB hz hk hS1 => ?_)
  obtain ⟨hP1, hD1⟩ := hB
  rw [ht] at hP1
  obtain ⟨hP2, hD2⟩ := join_app hP hD hk hFc hP1 hD1
  exact kk u H1 locs1 ls h hP2 hD2 hS1
end IRules
