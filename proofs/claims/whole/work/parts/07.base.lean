/-! the numbers of a world: int contents by cell and place, and one long -/
abbrev St : Type := (Nat → Nat → Int32) × Int64
def rd (S : St) (k i : Nat) : Int32 := S.1 k i
def rdL (S : St) : Int64 := S.2
def up (S : St) (k i : Nat) (v : Int32) : St := (fun a => if a = k then upd (S.1 k) i v else S.1 a, S.2)
def upL (S : St) (v : Int64) : St := (S.1, v)
abbrev Ar : Type := ClassId × ClassId × ClassId
abbrev WF : Type := (Nat → Nat) → Ar → St → va_W
def tyl (ar : Ar) : List (ClassId × FieldType) := [(ar.1, .int), (ar.2.1, .boolean), (ar.2.2, .long)]
abbrev Ctx : Type := Program × Launch × Env × Room × State × MethodId × Array Value × List Frame × Method × Code × va_G × (Nat → Nat) × Ar × (Nat → Prop)
def xl (x : Ctx) : Launch := x.2.1
def xR (x : Ctx) : Room := x.2.2.2.1
def xM (x : Ctx) : Method := x.2.2.2.2.2.2.2.2.1
def xD (x : Ctx) : va_G := x.2.2.2.2.2.2.2.2.2.2.1
def xq (x : Ctx) : Nat → Nat := x.2.2.2.2.2.2.2.2.2.2.2.1
def xr (x : Ctx) : Ar := x.2.2.2.2.2.2.2.2.2.2.2.2.1
/-- the nest mates' words -/
def nestW : List (String × Nat × MethodName × String) := [(RX9, 9, yX7_init, RX9), (RX9, 27, yX0_init, RX9), (RX9, 34, yX5_init, RX9), (RX9, 53, yX4_init, RX9), (RX3, 77, yX9_hasBit, RX9), (RX5, 32, yX9_withBit, RX9), (RX3, 96, yX9_withBit, RX9), (RX0, 65, yX9_withBit, RX9), (RX0, 80, yX9_hasBit, RX9), (RX8, 50, yX9_hasBit, RX9), (RX5, 38, yX9_hasBit, RX9), (RX1, 52, yX9_hasBit, RX9), (RX6, 31, yX9_hasBit, RX9), (RX6, 39, yX9_withBit, RX9), (RX2, 98, yX9_hasBit, RX9), (RX2, 106, yX9_withBit, RX9)]
def NW (U : State) : Prop := ∀ t ∈ nestW, va_Nw (.methodLinkNest t.1 t.2.1 t.2.2.1 t.2.2.2) U
theorem NW.same {u U : State} (h : u.vm = U.vm) (n : NW u) : NW U := fun t ht => (n t ht).same rfl h
theorem NW.warm {u U : State} (h : u.WarmedH U.vm) (n : NW u) : NW U := fun t ht => (n t ht).warmM h
/-- the addresses of a world don't hang on its numbers -/
def AdrOk (Wf : WF) : Prop := ∀ (q : Nat → Nat) (ar : Ar) (S T : St) (k : Nat), ((Wf q ar S)[k]?).map Prod.fst = ((Wf q ar T)[k]?).map Prod.fst
theorem va_D_adr {A : Nat → Prop} {ws vs : va_W} (h : ∀ k : Nat, (ws[k]?).map Prod.fst = (vs[k]?).map Prod.fst) (hD : va_D A ws) : va_D A vs := by
  have key : ∀ (k : Nat) (p : Nat × va_E), vs[k]? = some p → ∃ q, ws[k]? = some q ∧ q.1 = p.1 := by
    intro k p hp
    have h1 := h k
    rw [hp] at h1
    cases hw : ws[k]? with
    | none => rw [hw] at h1; cases h1
    | some q => rw [hw] at h1; exact ⟨q, rfl, Option.some.inj h1⟩
  refine ⟨fun i j p q hi hj hpq => ?_, fun k p hk => ?_⟩
  · obtain ⟨a, ha, ea⟩ := key i p hi
    obtain ⟨b, hb, eb⟩ := key j q hj
    exact hD.1 i j a b ha hb (ea.trans (hpq.trans eb.symm))
  · obtain ⟨a, ha, ea⟩ := key k p hk
    rw [← ea]
    exact hD.2 k a ha
/-- what stands all along a method's walk -/
def Cx (x : Ctx) (Wf : WF) (cc : ByteArray) (own : String) (nL : Nat) (rm : Room) (ret : Option FieldType) : Prop := match x with
  | (p, _, _, R, s, m, args, _, meth, c, D, q, ar, A) => p.tables.exec = Jvm.exec ∧ c.code = cc ∧ c.maxLocals = nL ∧ s.vm.findClass own = some m.cls ∧ (∀ w ∈ wsL_law0, w.before args s = true) ∧ va_K D vwCl (tyl ar) s ∧ (∀ S, va_D A (Wf q ar S)) ∧ NW s ∧ meth.locks = false ∧ (∀ a, s.heap.size ≤ a → A a) ∧ R = rm ∧ meth.sig.returnType = ret
/-- the machine comes from here to its end Q -/
def V (x : Ctx) (Wf : WF) (nL : Nat) (Q : State → Prop) (S : St) (pc : Nat) (L : List (Nat × Value)) (st : List Value) : Prop := match x with
  | (p, l, e, R, s, m, args, below, meth, c, D, q, ar, A) => ∀ (H : Heap) (locs : List Loc) (ls : Array Slot), lv_has ls nL L → va_P D vwCl (Wf q ar S) H → va_S A s.heap H locs → W p l e R s m args below meth c H locs 0 0 Q (F0 m pc ls st)
def QI (x : Ctx) (Wf : WF) (res : Int32 × St) : State → Prop := match x with
  | (_, _, _, _, s, _, args, below, _, _, D, q, ar, A) => MQ below (va_Qi (fun r u => r = res.1 ∧ u = res.2) (fun u t => va_P D vwCl (Wf q ar u) t.heap) A) args s 0 0 A
def QL (x : Ctx) (Wf : WF) (res : Int64 × St) : State → Prop := match x with
  | (_, _, _, _, s, _, args, below, _, _, D, q, ar, A) => MQ below (va_Ql (fun r u => r = res.1 ∧ u = res.2) (fun u t => va_P D vwCl (Wf q ar u) t.heap) A) args s 0 0 A
def QV (x : Ctx) (Wf : WF) (res : St) : State → Prop := match x with
  | (_, _, _, _, s, _, args, below, _, _, D, q, ar, A) => MQ below (va_Qv (fun u => u = res) (fun u t => va_P D vwCl (Wf q ar u) t.heap) A) args s 0 0 A
def Pre (D : va_G) (q : Nat → Nat) (ar : Ar) (Wf : WF) (S : St) (sz : Nat) (U : State) : Prop := U.heap.size = sz ∧ va_P D vwCl (Wf q ar S) U.heap ∧ va_K D vwCl (tyl ar) U ∧ va_D (fun _ => True) (Wf q ar S) ∧ NW U
/-- contracts: from the world S with these arguments the method returns res.1 and leaves the world res.2 -/
def MetI (l : Launch) (D : va_G) (q : Nat → Nat) (ar : Ar) (Wf : WF) (y : MethodName) (cc : ByteArray) (nL : Nat) (ret : Option FieldType) (rm : Room) (av : List Value) (S : St) (res : Int32 × St) : Prop :=
  ∀ sz : Nat, Met l y (Cond.code y cc nL ret :: wsL_law0) rm (va_Pc av (Pre D q ar Wf S sz)) (va_Qi (fun r u => r = res.1 ∧ u = res.2) (fun u t => va_P D vwCl (Wf q ar u) t.heap) (va_A (Wf q ar S) sz)) 0 0 (va_A (Wf q ar S) sz)
def MetL (l : Launch) (D : va_G) (q : Nat → Nat) (ar : Ar) (Wf : WF) (y : MethodName) (cc : ByteArray) (nL : Nat) (ret : Option FieldType) (rm : Room) (av : List Value) (S : St) (res : Int64 × St) : Prop :=
  ∀ sz : Nat, Met l y (Cond.code y cc nL ret :: wsL_law0) rm (va_Pc av (Pre D q ar Wf S sz)) (va_Ql (fun r u => r = res.1 ∧ u = res.2) (fun u t => va_P D vwCl (Wf q ar u) t.heap) (va_A (Wf q ar S) sz)) 0 0 (va_A (Wf q ar S) sz)
def MetV (l : Launch) (D : va_G) (q : Nat → Nat) (ar : Ar) (Wf : WF) (y : MethodName) (cc : ByteArray) (nL : Nat) (ret : Option FieldType) (rm : Room) (av : List Value) (S : St) (res : St) : Prop :=
  ∀ sz : Nat, Met l y (Cond.code y cc nL ret :: wsL_law0) rm (va_Pc av (Pre D q ar Wf S sz)) (va_Qv (fun u => u = res) (fun u t => va_P D vwCl (Wf q ar u) t.heap) (va_A (Wf q ar S) sz)) 0 0 (va_A (Wf q ar S) sz)
theorem Pre.blind {av : List Value} {D : va_G} {q : Nat → Nat} {ar : Ar} {Wf : WF} {S : St} {sz : Nat} : FrameBlind (va_Pc av (Pre D q ar Wf S sz)) := by
  intro a U g mk h
  obtain ⟨h0, h1, hP, hK, hD, hN⟩ := h
  exact ⟨h0, h1, hP, va_K.moved (u := U) (U := U.calling g mk a) (Vm.Alike.refl U.vm) hK, hD, NW.same (u := U) (U := U.calling g mk a) rfl hN⟩
/-- out of a walk a contract -/
theorem mk_ctx {l : Launch} {D : va_G} {q : Nat → Nat} {ar : Ar} {Wf : WF} (hW : AdrOk Wf) {y : MethodName} {cc : ByteArray} {nL : Nat} {ret : Option FieldType} {rm : Room} {S : St} {p : Program} {e : Env} {s : State} {m : MethodId} {args : Array Value} {below : List Frame} {meth : Method} {c : Code} {s₁ : State}
    (B : BodyLoose p l y (headSpec (Cond.code y cc nL ret :: wsL_law0) rm) cc nL ret e s m args below meth c s₁) (hml : c.maxLocals = nL) (hK : va_K D vwCl (tyl ar) s) (hD : va_D (fun _ => True) (Wf q ar S)) (hN : NW s) :
    Cx (p, l, e, rm, s, m, args, below, meth, c, D, q, ar, va_A (Wf q ar S) s.heap.size) Wf cc y.cls nL rm ret := by
  have hts := atoms_spec (ws := Cond.code y cc nL ret :: wsL_law0) B.pre
  exact ⟨B.exec, B.bytes, hml, findClass_of_methodNamed B.named, fun w h => hts w (List.mem_cons_of_mem _ h), hK, fun T => va_D_adr (hW q ar S T) hD.self, hN, B.notSynchronized, fun a h => Or.inr h, rfl, B.returns⟩
theorem metI_of {l : Launch} {D : va_G} {q : Nat → Nat} {ar : Ar} {Wf : WF} (hW : AdrOk Wf) {y : MethodName} {cc : ByteArray} {nL : Nat} {ret : Option FieldType} {rm : Room} {av : List Value} {S : St} {res : Int32 × St} (hy : plainName y.cls = true) (hl : (lg_sl av).length ≤ nL)
    (body : ∀ x : Ctx, xl x = l → xD x = D → xq x = q → xr x = ar → Cx x Wf cc y.cls nL rm ret → V x Wf nL (QI x Wf res) S 0 (lv_args 0 av) []) : MetI l D q ar Wf y cc nL ret rm av S res := by
  intro sz
  refine Met.ofW (cc := cc) (maxL := nL) (ret := ret) hy rfl ?_
  intro p e s m args below meth c s₁ B hml hv
  obtain ⟨rfl, hsz, hP, hK, hD, hN⟩ := hv
  subst hsz
  have C := mk_ctx hW B hml hK hD hN
  have h := body _ rfl rfl rfl rfl C
  rw [lg_entry_eq]
  exact h s.heap [] _ (lv_entry av hl) hP va_S.rf
theorem metL_of {l : Launch} {D : va_G} {q : Nat → Nat} {ar : Ar} {Wf : WF} (hW : AdrOk Wf) {y : MethodName} {cc : ByteArray} {nL : Nat} {ret : Option FieldType} {rm : Room} {av : List Value} {S : St} {res : Int64 × St} (hy : plainName y.cls = true) (hl : (lg_sl av).length ≤ nL)
    (body : ∀ x : Ctx, xl x = l → xD x = D → xq x = q → xr x = ar → Cx x Wf cc y.cls nL rm ret → V x Wf nL (QL x Wf res) S 0 (lv_args 0 av) []) : MetL l D q ar Wf y cc nL ret rm av S res := by
  intro sz
  refine Met.ofW (cc := cc) (maxL := nL) (ret := ret) hy rfl ?_
  intro p e s m args below meth c s₁ B hml hv
  obtain ⟨rfl, hsz, hP, hK, hD, hN⟩ := hv
  subst hsz
  have C := mk_ctx hW B hml hK hD hN
  have h := body _ rfl rfl rfl rfl C
  rw [lg_entry_eq]
  exact h s.heap [] _ (lv_entry av hl) hP va_S.rf
theorem metV_of {l : Launch} {D : va_G} {q : Nat → Nat} {ar : Ar} {Wf : WF} (hW : AdrOk Wf) {y : MethodName} {cc : ByteArray} {nL : Nat} {ret : Option FieldType} {rm : Room} {av : List Value} {S : St} {res : St} (hy : plainName y.cls = true) (hl : (lg_sl av).length ≤ nL)
    (body : ∀ x : Ctx, xl x = l → xD x = D → xq x = q → xr x = ar → Cx x Wf cc y.cls nL rm ret → V x Wf nL (QV x Wf res) S 0 (lv_args 0 av) []) : MetV l D q ar Wf y cc nL ret rm av S res := by
  intro sz
  refine Met.ofW (cc := cc) (maxL := nL) (ret := ret) hy rfl ?_
  intro p e s m args below meth c s₁ B hml hv
  obtain ⟨rfl, hsz, hP, hK, hD, hN⟩ := hv
  subst hsz
  have C := mk_ctx hW B hml hK hD hN
  have h := body _ rfl rfl rfl rfl C
  rw [lg_entry_eq]
  exact h s.heap [] _ (lv_entry av hl) hP va_S.rf
section Rules1
variable {x : Ctx} {Wf : WF} {cc : ByteArray} {own : String} {nL : Nat} {rm : Room} {ret : Option FieldType} {Q : State → Prop} {S : St} {pc n : Nat} {L L' : List (Nat × Value)} {st : List Value}
/-- fewer locals -/
theorem v_sub (ks : List Nat) (hl : lv_pick L ks = L') (k : V x Wf nL Q S pc L' st) : V x Wf nL Q S pc L st := by
  obtain ⟨p, l, en, R, s, m, args, below, meth, c, D, q, ar, A⟩ := x
  exact fun H locs ls h hP hS => k H locs ls (lv_sub h ks hl) hP hS
theorem v_iconst (C : Cx x Wf cc own nL rm ret) {z : Int} {v : Int32} (hd : decode cc pc = .ok (.iconst z, 1)) (hv : Int32.ofInt z = v) (hn : pc + 1 = n) (k : V x Wf nL Q S n L (.int v :: st)) : V x Wf nL Q S pc L st := by
  obtain ⟨p, l, en, R, s, m, args, below, meth, c, D, q, ar, A⟩ := x
  subst hn
  exact fun H locs ls h hP hS => lv_iconst C.1 C.2.1 hd hv (k H locs ls h hP hS)
theorem v_bipush (C : Cx x Wf cc own nL rm ret) {z : Int} {v : Int32} (hd : decode cc pc = .ok (.bipush z, 2)) (hv : (Int8.ofInt z).toInt32 = v) (hn : pc + 2 = n) (k : V x Wf nL Q S n L (.int v :: st)) : V x Wf nL Q S pc L st := by
  obtain ⟨p, l, en, R, s, m, args, below, meth, c, D, q, ar, A⟩ := x
  subst hn
  exact fun H locs ls h hP hS => lv_bipush C.1 C.2.1 hd hv (k H locs ls h hP hS)
theorem v_sipush (C : Cx x Wf cc own nL rm ret) {z : Int} {v : Int32} (hd : decode cc pc = .ok (.sipush z, 3)) (hv : (Int16.ofInt z).toInt32 = v) (hn : pc + 3 = n) (k : V x Wf nL Q S n L (.int v :: st)) : V x Wf nL Q S pc L st := by
  obtain ⟨p, l, en, R, s, m, args, below, meth, c, D, q, ar, A⟩ := x
  subst hn
  exact fun H locs ls h hP hS => lv_sipush C.1 C.2.1 hd hv (k H locs ls h hP hS)
theorem v_ldc (C : Cx x Wf cc own nL rm ret) {idx : Nat} {v : Int32} (hw : Cond.constant own idx v ∈ wsL_law0) (hd : decode cc pc = .ok (.ldc idx, 2)) (hn : pc + 2 = n) (k : V x Wf nL Q S n L (.int v :: st)) : V x Wf nL Q S pc L st := by
  obtain ⟨p, l, en, R, s, m, args, below, meth, c, D, q, ar, A⟩ := x
  subst hn
  exact fun H locs ls h hP hS => lv_ldc C.1 C.2.1 C.2.2.2.1 (C.2.2.2.2.1 _ hw) hd (k H locs ls h hP hS)
theorem v_ldc2 (C : Cx x Wf cc own nL rm ret) {idx : Nat} {v : Int64} (hw : Cond.constantLong own idx v ∈ wsL_law0) (hd : decode cc pc = .ok (.ldc2_w idx, 3)) (hn : pc + 3 = n) (k : V x Wf nL Q S n L (.long v :: st)) : V x Wf nL Q S pc L st := by
  obtain ⟨p, l, en, R, s, m, args, below, meth, c, D, q, ar, A⟩ := x
  subst hn
  exact fun H locs ls h hP hS => lv_ldc2 C.1 C.2.1 C.2.2.2.1 (C.2.2.2.2.1 _ hw) hd (k H locs ls h hP hS)
theorem v_lconst (C : Cx x Wf cc own nL rm ret) {z : Fin 2} {v : Int64} (hd : decode cc pc = .ok (.lconst z, 1)) (hv : Int64.ofNat (z : Nat) = v) (hn : pc + 1 = n) (k : V x Wf nL Q S n L (.long v :: st)) : V x Wf nL Q S pc L st := by
  obtain ⟨p, l, en, R, s, m, args, below, meth, c, D, q, ar, A⟩ := x
  subst hn
  exact fun H locs ls h hP hS => lv_lconst C.1 C.2.1 hd hv (k H locs ls h hP hS)
theorem v_iload_n (C : Cx x Wf cc own nL rm ret) {z : Fin 4} {i : Nat} {a : Int32} (j : Nat) (hd : decode cc pc = .ok (.iload_n z, 1)) (hi : (z : Nat) = i) (hj : L[j]? = some (i, .int a)) (hn : pc + 1 = n) (k : V x Wf nL Q S n L (.int a :: st)) : V x Wf nL Q S pc L st := by
  obtain ⟨p, l, en, R, s, m, args, below, meth, c, D, q, ar, A⟩ := x
  subst hn
  exact fun H locs ls h hP hS => lv_iload_n C.1 C.2.1 hd hi (lv_at h j hj) (k H locs ls h hP hS)
theorem v_iload (C : Cx x Wf cc own nL rm ret) {i : Nat} {a : Int32} (j : Nat) (hd : decode cc pc = .ok (.iload i, 2)) (hj : L[j]? = some (i, .int a)) (hn : pc + 2 = n) (k : V x Wf nL Q S n L (.int a :: st)) : V x Wf nL Q S pc L st := by
  obtain ⟨p, l, en, R, s, m, args, below, meth, c, D, q, ar, A⟩ := x
  subst hn
  exact fun H locs ls h hP hS => lv_iload C.1 C.2.1 hd (lv_at h j hj) (k H locs ls h hP hS)
theorem v_lload_n (C : Cx x Wf cc own nL rm ret) {z : Fin 4} {i : Nat} {a : Int64} (j : Nat) (hd : decode cc pc = .ok (.lload_n z, 1)) (hi : (z : Nat) = i) (hj : L[j]? = some (i, .long a)) (hn : pc + 1 = n) (k : V x Wf nL Q S n L (.long a :: st)) : V x Wf nL Q S pc L st := by
  obtain ⟨p, l, en, R, s, m, args, below, meth, c, D, q, ar, A⟩ := x
  subst hn
  exact fun H locs ls h hP hS => lv_lload_n C.1 C.2.1 hd hi (lv_at h j hj) (k H locs ls h hP hS)
theorem v_aload_n (C : Cx x Wf cc own nL rm ret) {z : Fin 4} {i : Nat} {a : Nat} (j : Nat) (hd : decode cc pc = .ok (.aload_n z, 1)) (hi : (z : Nat) = i) (hj : L[j]? = some (i, .ref a)) (hn : pc + 1 = n) (k : V x Wf nL Q S n L (.ref a :: st)) : V x Wf nL Q S pc L st := by
  obtain ⟨p, l, en, R, s, m, args, below, meth, c, D, q, ar, A⟩ := x
  subst hn
  exact fun H locs ls h hP hS => lv_aload_n C.1 C.2.1 hd hi (lv_at h j hj) (k H locs ls h hP hS)
theorem v_istore_n (C : Cx x Wf cc own nL rm ret) {z : Fin 4} {i : Nat} {a y : Int32} (hd : decode cc pc = .ok (.istore_n z, 1)) (hi : (z : Nat) = i) (hb : i < nL) (hl : (i, Value.int y) :: L.filter (fun q => !(q.1 == i) && !(q.1 + 1 == i && q.2.category == 2)) = L') (hn : pc + 1 = n) (e : y = a) (k : V x Wf nL Q S n L' st) : V x Wf nL Q S pc L (.int a :: st) := by
  obtain ⟨p, l, en, R, s, m, args, below, meth, c, D, q, ar, A⟩ := x
  subst hn; subst e
  exact fun H locs ls h hP hS => lv_istore_n C.1 C.2.1 hd hi h hb hl (fun ls h => k H locs ls h hP hS)
theorem v_istore (C : Cx x Wf cc own nL rm ret) {i : Nat} {a y : Int32} (hd : decode cc pc = .ok (.istore i, 2)) (hb : i < nL) (hl : (i, Value.int y) :: L.filter (fun q => !(q.1 == i) && !(q.1 + 1 == i && q.2.category == 2)) = L') (hn : pc + 2 = n) (e : y = a) (k : V x Wf nL Q S n L' st) : V x Wf nL Q S pc L (.int a :: st) := by
  obtain ⟨p, l, en, R, s, m, args, below, meth, c, D, q, ar, A⟩ := x
  subst hn; subst e
  exact fun H locs ls h hP hS => lv_istore C.1 C.2.1 hd h hb hl (fun ls h => k H locs ls h hP hS)
theorem v_lstore_n (C : Cx x Wf cc own nL rm ret) {z : Fin 4} {i : Nat} {a y : Int64} (hd : decode cc pc = .ok (.lstore_n z, 1)) (hi : (z : Nat) = i) (hb : i + 1 < nL) (hl : (i, Value.long y) :: L.filter (fun q => !(q.1 == i) && (!(q.1 == i + 1) && !(q.1 + 1 == i && q.2.category == 2))) = L') (hn : pc + 1 = n) (e : y = a) (k : V x Wf nL Q S n L' st) : V x Wf nL Q S pc L (.long a :: st) := by
  obtain ⟨p, l, en, R, s, m, args, below, meth, c, D, q, ar, A⟩ := x
  subst hn; subst e
  exact fun H locs ls h hP hS => lv_lstore_n C.1 C.2.1 hd hi h hb hl (fun ls h => k H locs ls h hP hS)
theorem v_astore_n (C : Cx x Wf cc own nL rm ret) {z : Fin 4} {i : Nat} {a : Nat} (hd : decode cc pc = .ok (.astore_n z, 1)) (hi : (z : Nat) = i) (hb : i < nL) (hl : (i, Value.ref a) :: L.filter (fun q => !(q.1 == i) && !(q.1 + 1 == i && q.2.category == 2)) = L') (hn : pc + 1 = n) (k : V x Wf nL Q S n L' st) : V x Wf nL Q S pc L (.ref a :: st) := by
  obtain ⟨p, l, en, R, s, m, args, below, meth, c, D, q, ar, A⟩ := x
  subst hn
  exact fun H locs ls h hP hS => lv_astore_n C.1 C.2.1 hd hi h hb hl (fun ls h => k H locs ls h hP hS)
theorem v_iinc (C : Cx x Wf cc own nL rm ret) {i : Nat} {z : Int} {a v : Int32} (j : Nat) (hd : decode cc pc = .ok (.iinc i z, 3)) (hj : L[j]? = some (i, .int a)) (hv : v = a + Int32.ofInt z) (hb : i < nL) (hl : (i, Value.int v) :: L.filter (fun q => !(q.1 == i) && !(q.1 + 1 == i && q.2.category == 2)) = L') (hn : pc + 3 = n) (k : V x Wf nL Q S n L' st) : V x Wf nL Q S pc L st := by
  obtain ⟨p, l, en, R, s, m, args, below, meth, c, D, q, ar, A⟩ := x
  subst hn
  exact fun H locs ls h hP hS => lv_iinc C.1 C.2.1 hd h hj hv.symm hb hl (fun ls h => k H locs ls h hP hS)
/-! operations -/
def shl (a b : Int32) : Int32 := a <<< (b &&& 31)
def sshr (a b : Int32) : Int32 := a >>> (b &&& 31)
def ush (a b : Int32) : Int32 := (a.toUInt32 >>> (b.toUInt32 &&& Int32.toUInt32 31)).toInt32
def irem (a b : Int32) : Int32 := a - a / b * b
def lshl (a : Int64) (b : Int32) : Int64 := a <<< (b.toInt64 &&& 63)
def lsshr (a : Int64) (b : Int32) : Int64 := a >>> (b.toInt64 &&& 63)
theorem v_iadd (C : Cx x Wf cc own nL rm ret) {a : Int32} {b : Int32} (hd : decode cc pc = .ok (.iadd, 1)) (hn : pc + 1 = n) (k : V x Wf nL Q S n L (.int (a + b) :: st)) : V x Wf nL Q S pc L (.int b :: .int a :: st) := by
  obtain ⟨p, l, en, R, s, m, args, below, meth, c, D, q, ar, A⟩ := x
  subst hn
  exact fun H locs ls h hP hS => lv_iadd C.1 C.2.1 hd (k H locs ls h hP hS)
theorem v_isub (C : Cx x Wf cc own nL rm ret) {a : Int32} {b : Int32} (hd : decode cc pc = .ok (.isub, 1)) (hn : pc + 1 = n) (k : V x Wf nL Q S n L (.int (a - b) :: st)) : V x Wf nL Q S pc L (.int b :: .int a :: st) := by
  obtain ⟨p, l, en, R, s, m, args, below, meth, c, D, q, ar, A⟩ := x
  subst hn
  exact fun H locs ls h hP hS => lv_isub C.1 C.2.1 hd (k H locs ls h hP hS)
theorem v_imul (C : Cx x Wf cc own nL rm ret) {a : Int32} {b : Int32} (hd : decode cc pc = .ok (.imul, 1)) (hn : pc + 1 = n) (k : V x Wf nL Q S n L (.int (a * b) :: st)) : V x Wf nL Q S pc L (.int b :: .int a :: st) := by
  obtain ⟨p, l, en, R, s, m, args, below, meth, c, D, q, ar, A⟩ := x
  subst hn
  exact fun H locs ls h hP hS => lv_imul C.1 C.2.1 hd (k H locs ls h hP hS)
theorem v_iand (C : Cx x Wf cc own nL rm ret) {a : Int32} {b : Int32} (hd : decode cc pc = .ok (.iand, 1)) (hn : pc + 1 = n) (k : V x Wf nL Q S n L (.int (a &&& b) :: st)) : V x Wf nL Q S pc L (.int b :: .int a :: st) := by
  obtain ⟨p, l, en, R, s, m, args, below, meth, c, D, q, ar, A⟩ := x
  subst hn
  exact fun H locs ls h hP hS => lv_iand C.1 C.2.1 hd (k H locs ls h hP hS)
theorem v_ior (C : Cx x Wf cc own nL rm ret) {a : Int32} {b : Int32} (hd : decode cc pc = .ok (.ior, 1)) (hn : pc + 1 = n) (k : V x Wf nL Q S n L (.int (a ||| b) :: st)) : V x Wf nL Q S pc L (.int b :: .int a :: st) := by
  obtain ⟨p, l, en, R, s, m, args, below, meth, c, D, q, ar, A⟩ := x
  subst hn
  exact fun H locs ls h hP hS => lv_ior C.1 C.2.1 hd (k H locs ls h hP hS)
theorem v_ixor (C : Cx x Wf cc own nL rm ret) {a : Int32} {b : Int32} (hd : decode cc pc = .ok (.ixor, 1)) (hn : pc + 1 = n) (k : V x Wf nL Q S n L (.int (a ^^^ b) :: st)) : V x Wf nL Q S pc L (.int b :: .int a :: st) := by
  obtain ⟨p, l, en, R, s, m, args, below, meth, c, D, q, ar, A⟩ := x
  subst hn
  exact fun H locs ls h hP hS => lv_ixor C.1 C.2.1 hd (k H locs ls h hP hS)
theorem v_idiv (C : Cx x Wf cc own nL rm ret) {a : Int32} {b : Int32} (hd : decode cc pc = .ok (.idiv, 1)) (hz : ¬ b = 0) (hn : pc + 1 = n) (k : V x Wf nL Q S n L (.int (a / b) :: st)) : V x Wf nL Q S pc L (.int b :: .int a :: st) := by
  obtain ⟨p, l, en, R, s, m, args, below, meth, c, D, q, ar, A⟩ := x
  subst hn
  exact fun H locs ls h hP hS => lv_idiv C.1 C.2.1 hd hz (k H locs ls h hP hS)
theorem v_irem (C : Cx x Wf cc own nL rm ret) {a : Int32} {b : Int32} (hd : decode cc pc = .ok (.irem, 1)) (hz : ¬ b = 0) (hn : pc + 1 = n) (k : V x Wf nL Q S n L (.int (irem a b) :: st)) : V x Wf nL Q S pc L (.int b :: .int a :: st) := by
  obtain ⟨p, l, en, R, s, m, args, below, meth, c, D, q, ar, A⟩ := x
  subst hn
  exact fun H locs ls h hP hS => lv_irem C.1 C.2.1 hd hz (k H locs ls h hP hS)
theorem v_ishl (C : Cx x Wf cc own nL rm ret) {a : Int32} {b : Int32} (hd : decode cc pc = .ok (.ishl, 1)) (hn : pc + 1 = n) (k : V x Wf nL Q S n L (.int (shl a b) :: st)) : V x Wf nL Q S pc L (.int b :: .int a :: st) := by
  obtain ⟨p, l, en, R, s, m, args, below, meth, c, D, q, ar, A⟩ := x
  subst hn
  exact fun H locs ls h hP hS => lv_ishl C.1 C.2.1 hd (k H locs ls h hP hS)
theorem v_ishr (C : Cx x Wf cc own nL rm ret) {a : Int32} {b : Int32} (hd : decode cc pc = .ok (.ishr, 1)) (hn : pc + 1 = n) (k : V x Wf nL Q S n L (.int (sshr a b) :: st)) : V x Wf nL Q S pc L (.int b :: .int a :: st) := by
  obtain ⟨p, l, en, R, s, m, args, below, meth, c, D, q, ar, A⟩ := x
  subst hn
  exact fun H locs ls h hP hS => lv_ishr C.1 C.2.1 hd (k H locs ls h hP hS)
theorem v_iushr (C : Cx x Wf cc own nL rm ret) {a : Int32} {b : Int32} (hd : decode cc pc = .ok (.iushr, 1)) (hn : pc + 1 = n) (k : V x Wf nL Q S n L (.int (ush a b) :: st)) : V x Wf nL Q S pc L (.int b :: .int a :: st) := by
  obtain ⟨p, l, en, R, s, m, args, below, meth, c, D, q, ar, A⟩ := x
  subst hn
  exact fun H locs ls h hP hS => lv_iushr C.1 C.2.1 hd rfl (k H locs ls h hP hS)
theorem v_land (C : Cx x Wf cc own nL rm ret) {a : Int64} {b : Int64} (hd : decode cc pc = .ok (.land, 1)) (hn : pc + 1 = n) (k : V x Wf nL Q S n L (.long (a &&& b) :: st)) : V x Wf nL Q S pc L (.long b :: .long a :: st) := by
  obtain ⟨p, l, en, R, s, m, args, below, meth, c, D, q, ar, A⟩ := x
  subst hn
  exact fun H locs ls h hP hS => lv_land C.1 C.2.1 hd (k H locs ls h hP hS)
theorem v_lor (C : Cx x Wf cc own nL rm ret) {a : Int64} {b : Int64} (hd : decode cc pc = .ok (.lor, 1)) (hn : pc + 1 = n) (k : V x Wf nL Q S n L (.long (a ||| b) :: st)) : V x Wf nL Q S pc L (.long b :: .long a :: st) := by
  obtain ⟨p, l, en, R, s, m, args, below, meth, c, D, q, ar, A⟩ := x
  subst hn
  exact fun H locs ls h hP hS => lv_lor C.1 C.2.1 hd (k H locs ls h hP hS)
theorem v_lshl (C : Cx x Wf cc own nL rm ret) {a : Int64} {b : Int32} (hd : decode cc pc = .ok (.lshl, 1)) (hn : pc + 1 = n) (k : V x Wf nL Q S n L (.long (lshl a b) :: st)) : V x Wf nL Q S pc L (.int b :: .long a :: st) := by
  obtain ⟨p, l, en, R, s, m, args, below, meth, c, D, q, ar, A⟩ := x
  subst hn
  exact fun H locs ls h hP hS => lv_lshl C.1 C.2.1 hd rfl (k H locs ls h hP hS)
theorem v_lshr (C : Cx x Wf cc own nL rm ret) {a : Int64} {b : Int32} (hd : decode cc pc = .ok (.lshr, 1)) (hn : pc + 1 = n) (k : V x Wf nL Q S n L (.long (lsshr a b) :: st)) : V x Wf nL Q S pc L (.int b :: .long a :: st) := by
  obtain ⟨p, l, en, R, s, m, args, below, meth, c, D, q, ar, A⟩ := x
  subst hn
  exact fun H locs ls h hP hS => lv_lshr C.1 C.2.1 hd rfl (k H locs ls h hP hS)
theorem v_lcmp (C : Cx x Wf cc own nL rm ret) {a : Int64} {b : Int64} (hd : decode cc pc = .ok (.lcmp, 1)) (hn : pc + 1 = n) (k : V x Wf nL Q S n L (.int (lg_cmp a b) :: st)) : V x Wf nL Q S pc L (.long b :: .long a :: st) := by
  obtain ⟨p, l, en, R, s, m, args, below, meth, c, D, q, ar, A⟩ := x
  subst hn
  exact fun H locs ls h hP hS => W.lcmp C.1 C.2.1 hd (k H locs ls h hP hS)
theorem v_i2l (C : Cx x Wf cc own nL rm ret) {a : Int32} (hd : decode cc pc = .ok (.i2l, 1)) (hn : pc + 1 = n) (k : V x Wf nL Q S n L (.long a.toInt64 :: st)) : V x Wf nL Q S pc L (.int a :: st) := by
  obtain ⟨p, l, en, R, s, m, args, below, meth, c, D, q, ar, A⟩ := x
  subst hn
  exact fun H locs ls h hP hS => lv_i2l C.1 C.2.1 hd rfl (k H locs ls h hP hS)
theorem v_ldcw (C : Cx x Wf cc own nL rm ret) {idx : Nat} {v : Int32} (hw : Cond.constant own idx v ∈ wsL_law0) (hd : decode cc pc = .ok (.ldc_w idx, 3)) (hn : pc + 3 = n) (k : V x Wf nL Q S n L (.int v :: st)) : V x Wf nL Q S pc L st := by
  obtain ⟨p, l, en, R, s, m, args, below, meth, c, D, q, ar, A⟩ := x
  subst hn
  exact fun H locs ls h hP hS => lv_ldcw C.1 C.2.1 C.2.2.2.1 (C.2.2.2.2.1 _ hw) hd (k H locs ls h hP hS)
theorem v_dup (C : Cx x Wf cc own nL rm ret) {v : Value} (hd : decode cc pc = .ok (.dup, 1)) (hc : v.category = 1) (hn : pc + 1 = n) (k : V x Wf nL Q S n L (v :: v :: st)) : V x Wf nL Q S pc L (v :: st) := by
  obtain ⟨p, l, en, R, s, m, args, below, meth, c, D, q, ar, A⟩ := x
  subst hn
  exact fun H locs ls h hP hS => lv_dup C.1 C.2.1 hd hc (k H locs ls h hP hS)
theorem v_dup2 (C : Cx x Wf cc own nL rm ret) {v w : Value} (hd : decode cc pc = .ok (.dup2, 1)) (hv : v.category = 1) (hw : w.category = 1) (hn : pc + 1 = n) (k : V x Wf nL Q S n L (v :: w :: v :: w :: st)) : V x Wf nL Q S pc L (v :: w :: st) := by
  obtain ⟨p, l, en, R, s, m, args, below, meth, c, D, q, ar, A⟩ := x
  subst hn
  exact fun H locs ls h hP hS => lv_dup2_11 C.1 C.2.1 hd hv hw (k H locs ls h hP hS)
theorem v_goto (C : Cx x Wf cc own nL rm ret) {z : Int} (hd : decode cc pc = .ok (.goto z, 3)) (ht : (pc : Int) + z = (n : Int)) (k : V x Wf nL Q S n L st) : V x Wf nL Q S pc L st := by
  obtain ⟨p, l, en, R, s, m, args, below, meth, c, D, q, ar, A⟩ := x
  exact fun H locs ls h hP hS => lv_goto C.1 C.2.1 hd ht (k H locs ls h hP hS)
theorem v_if_eq (C : Cx x Wf cc own nL rm ret) {a : Int32} {z : Int} {t : Nat} (hd : decode cc pc = .ok (.ifCond .eq z, 3)) (ht : (pc : Int) + z = (t : Int)) (hn : pc + 3 = n) (kt : a = 0 → V x Wf nL Q S t L st) (kf : ¬ a = 0 → V x Wf nL Q S n L st) : V x Wf nL Q S pc L (.int a :: st) := by
  obtain ⟨p, l, en, R, s, m, args, below, meth, c, D, q, ar, A⟩ := x
  subst hn
  exact fun H locs ls h hP hS => lv_if_eq C.1 C.2.1 hd ht (fun z => kt z H locs ls h hP hS) (fun z => kf z H locs ls h hP hS)
theorem v_icmp_eq (C : Cx x Wf cc own nL rm ret) {a b : Int32} {z : Int} {t : Nat} (hd : decode cc pc = .ok (.if_icmp .eq z, 3)) (ht : (pc : Int) + z = (t : Int)) (hn : pc + 3 = n) (kt : a = b → V x Wf nL Q S t L st) (kf : ¬ a = b → V x Wf nL Q S n L st) : V x Wf nL Q S pc L (.int b :: .int a :: st) := by
  obtain ⟨p, l, en, R, s, m, args, below, meth, c, D, q, ar, A⟩ := x
  subst hn
  exact fun H locs ls h hP hS => lv_icmp_eq C.1 C.2.1 hd ht (fun z => kt z H locs ls h hP hS) (fun z => kf z H locs ls h hP hS)
theorem v_if_ne (C : Cx x Wf cc own nL rm ret) {a : Int32} {z : Int} {t : Nat} (hd : decode cc pc = .ok (.ifCond .ne z, 3)) (ht : (pc : Int) + z = (t : Int)) (hn : pc + 3 = n) (kt : ¬ a = 0 → V x Wf nL Q S t L st) (kf : a = 0 → V x Wf nL Q S n L st) : V x Wf nL Q S pc L (.int a :: st) := by
  obtain ⟨p, l, en, R, s, m, args, below, meth, c, D, q, ar, A⟩ := x
  subst hn
  exact fun H locs ls h hP hS => lv_if_ne C.1 C.2.1 hd ht (fun z => kt z H locs ls h hP hS) (fun z => kf z H locs ls h hP hS)
theorem v_icmp_ne (C : Cx x Wf cc own nL rm ret) {a b : Int32} {z : Int} {t : Nat} (hd : decode cc pc = .ok (.if_icmp .ne z, 3)) (ht : (pc : Int) + z = (t : Int)) (hn : pc + 3 = n) (kt : ¬ a = b → V x Wf nL Q S t L st) (kf : a = b → V x Wf nL Q S n L st) : V x Wf nL Q S pc L (.int b :: .int a :: st) := by
  obtain ⟨p, l, en, R, s, m, args, below, meth, c, D, q, ar, A⟩ := x
  subst hn
  exact fun H locs ls h hP hS => lv_icmp_ne C.1 C.2.1 hd ht (fun z => kt z H locs ls h hP hS) (fun z => kf z H locs ls h hP hS)
theorem v_if_lt (C : Cx x Wf cc own nL rm ret) {a : Int32} {z : Int} {t : Nat} (hd : decode cc pc = .ok (.ifCond .lt z, 3)) (ht : (pc : Int) + z = (t : Int)) (hn : pc + 3 = n) (kt : a < 0 → V x Wf nL Q S t L st) (kf : ¬ a < 0 → V x Wf nL Q S n L st) : V x Wf nL Q S pc L (.int a :: st) := by
  obtain ⟨p, l, en, R, s, m, args, below, meth, c, D, q, ar, A⟩ := x
  subst hn
  exact fun H locs ls h hP hS => lv_if_lt C.1 C.2.1 hd ht (fun z => kt z H locs ls h hP hS) (fun z => kf z H locs ls h hP hS)
theorem v_icmp_lt (C : Cx x Wf cc own nL rm ret) {a b : Int32} {z : Int} {t : Nat} (hd : decode cc pc = .ok (.if_icmp .lt z, 3)) (ht : (pc : Int) + z = (t : Int)) (hn : pc + 3 = n) (kt : a < b → V x Wf nL Q S t L st) (kf : ¬ a < b → V x Wf nL Q S n L st) : V x Wf nL Q S pc L (.int b :: .int a :: st) := by
  obtain ⟨p, l, en, R, s, m, args, below, meth, c, D, q, ar, A⟩ := x
  subst hn
  exact fun H locs ls h hP hS => lv_icmp_lt C.1 C.2.1 hd ht (fun z => kt z H locs ls h hP hS) (fun z => kf z H locs ls h hP hS)
theorem v_if_ge (C : Cx x Wf cc own nL rm ret) {a : Int32} {z : Int} {t : Nat} (hd : decode cc pc = .ok (.ifCond .ge z, 3)) (ht : (pc : Int) + z = (t : Int)) (hn : pc + 3 = n) (kt : 0 ≤ a → V x Wf nL Q S t L st) (kf : ¬ 0 ≤ a → V x Wf nL Q S n L st) : V x Wf nL Q S pc L (.int a :: st) := by
  obtain ⟨p, l, en, R, s, m, args, below, meth, c, D, q, ar, A⟩ := x
  subst hn
  exact fun H locs ls h hP hS => lv_if_ge C.1 C.2.1 hd ht (fun z => kt z H locs ls h hP hS) (fun z => kf z H locs ls h hP hS)
theorem v_icmp_ge (C : Cx x Wf cc own nL rm ret) {a b : Int32} {z : Int} {t : Nat} (hd : decode cc pc = .ok (.if_icmp .ge z, 3)) (ht : (pc : Int) + z = (t : Int)) (hn : pc + 3 = n) (kt : b ≤ a → V x Wf nL Q S t L st) (kf : ¬ b ≤ a → V x Wf nL Q S n L st) : V x Wf nL Q S pc L (.int b :: .int a :: st) := by
  obtain ⟨p, l, en, R, s, m, args, below, meth, c, D, q, ar, A⟩ := x
  subst hn
  exact fun H locs ls h hP hS => lv_icmp_ge C.1 C.2.1 hd ht (fun z => kt z H locs ls h hP hS) (fun z => kf z H locs ls h hP hS)
theorem v_if_gt (C : Cx x Wf cc own nL rm ret) {a : Int32} {z : Int} {t : Nat} (hd : decode cc pc = .ok (.ifCond .gt z, 3)) (ht : (pc : Int) + z = (t : Int)) (hn : pc + 3 = n) (kt : 0 < a → V x Wf nL Q S t L st) (kf : ¬ 0 < a → V x Wf nL Q S n L st) : V x Wf nL Q S pc L (.int a :: st) := by
  obtain ⟨p, l, en, R, s, m, args, below, meth, c, D, q, ar, A⟩ := x
  subst hn
  exact fun H locs ls h hP hS => lv_if_gt C.1 C.2.1 hd ht (fun z => kt z H locs ls h hP hS) (fun z => kf z H locs ls h hP hS)
theorem v_icmp_gt (C : Cx x Wf cc own nL rm ret) {a b : Int32} {z : Int} {t : Nat} (hd : decode cc pc = .ok (.if_icmp .gt z, 3)) (ht : (pc : Int) + z = (t : Int)) (hn : pc + 3 = n) (kt : b < a → V x Wf nL Q S t L st) (kf : ¬ b < a → V x Wf nL Q S n L st) : V x Wf nL Q S pc L (.int b :: .int a :: st) := by
  obtain ⟨p, l, en, R, s, m, args, below, meth, c, D, q, ar, A⟩ := x
  subst hn
  exact fun H locs ls h hP hS => lv_icmp_gt C.1 C.2.1 hd ht (fun z => kt z H locs ls h hP hS) (fun z => kf z H locs ls h hP hS)
theorem v_if_le (C : Cx x Wf cc own nL rm ret) {a : Int32} {z : Int} {t : Nat} (hd : decode cc pc = .ok (.ifCond .le z, 3)) (ht : (pc : Int) + z = (t : Int)) (hn : pc + 3 = n) (kt : a ≤ 0 → V x Wf nL Q S t L st) (kf : ¬ a ≤ 0 → V x Wf nL Q S n L st) : V x Wf nL Q S pc L (.int a :: st) := by
  obtain ⟨p, l, en, R, s, m, args, below, meth, c, D, q, ar, A⟩ := x
  subst hn
  exact fun H locs ls h hP hS => lv_if_le C.1 C.2.1 hd ht (fun z => kt z H locs ls h hP hS) (fun z => kf z H locs ls h hP hS)
theorem v_icmp_le (C : Cx x Wf cc own nL rm ret) {a b : Int32} {z : Int} {t : Nat} (hd : decode cc pc = .ok (.if_icmp .le z, 3)) (ht : (pc : Int) + z = (t : Int)) (hn : pc + 3 = n) (kt : a ≤ b → V x Wf nL Q S t L st) (kf : ¬ a ≤ b → V x Wf nL Q S n L st) : V x Wf nL Q S pc L (.int b :: .int a :: st) := by
  obtain ⟨p, l, en, R, s, m, args, below, meth, c, D, q, ar, A⟩ := x
  subst hn
  exact fun H locs ls h hP hS => lv_icmp_le C.1 C.2.1 hd ht (fun z => kt z H locs ls h hP hS) (fun z => kf z H locs ls h hP hS)
theorem v_tabO (C : Cx x Wf cc own nL rm ret) {a : Int32} {dflt lo hi : Int} {offs : Array Int} {len t : Nat} (hd : decode cc pc = .ok (.tableswitch dflt lo hi offs, len)) (ha : a.toInt < lo ∨ hi < a.toInt) (ht : (pc : Int) + dflt = (t : Int)) (k : V x Wf nL Q S t L st) : V x Wf nL Q S pc L (.int a :: st) := by
  obtain ⟨p, l, en, R, s, m, args, below, meth, c, D, q, ar, A⟩ := x
  exact fun H locs ls h hP hS => lv_tableOut C.1 C.2.1 hd ha ht (k H locs ls h hP hS)
theorem v_tabI (C : Cx x Wf cc own nL rm ret) {a v : Int32} {dflt lo hi off : Int} {offs : Array Int} {len t : Nat} (hd : decode cc pc = .ok (.tableswitch dflt lo hi offs, len)) (e : a = v) (h1 : ¬ v.toInt < lo) (h2 : ¬ hi < v.toInt) (ho : offs[(v.toInt - lo).toNat]? = some off) (ht : (pc : Int) + off = (t : Int)) (k : V x Wf nL Q S t L st) : V x Wf nL Q S pc L (.int a :: st) := by
  obtain ⟨p, l, en, R, s, m, args, below, meth, c, D, q, ar, A⟩ := x
  subst e
  exact fun H locs ls h hP hS => lv_tableIn C.1 C.2.1 hd h1 h2 ho ht (k H locs ls h hP hS)
theorem v_look (C : Cx x Wf cc own nL rm ret) {a : Int32} {dflt off : Int} {ps : Array (Int × Int)} {len t : Nat} (hd : decode cc pc = .ok (.lookupswitch dflt ps, len)) (hp : (ps.toList.zip (ps.toList.drop 1)).all (fun (a, next) => a.1 < next.1) = true) (ho : Op.lookupswitch.offset ps.toList dflt a.toInt = off) (ht : (pc : Int) + off = (t : Int)) (k : V x Wf nL Q S t L st) : V x Wf nL Q S pc L (.int a :: st) := by
  obtain ⟨p, l, en, R, s, m, args, below, meth, c, D, q, ar, A⟩ := x
  exact fun H locs ls h hP hS => lv_lookup C.1 C.2.1 hd hp ho ht (k H locs ls h hP hS)
theorem v_iret (C : Cx x Wf cc own nL rm (some .int)) {a : Int32} (hd : decode cc pc = .ok (.ireturn, 1)) : V x Wf nL (QI x Wf (a, S)) S pc L [.int a] := by
  obtain ⟨p, l, en, R, s, m, args, below, meth, c, D, q, ar, A⟩ := x
  obtain ⟨hx, hb, hml, hown, hts, hK, hD, hN, hlk, hA, hR, hr⟩ := C
  exact fun H locs ls h hP hS => W.iret (v := a) hx hb hr (fun t ht hW => ⟨⟨a, S, rfl, ⟨rfl, rfl⟩, by show va_P D vwCl (Wf q ar S) t.heap; rw [ht]; exact hP⟩, hS.F ht⟩) hS.2.2 hd
theorem v_zret (C : Cx x Wf cc own nL rm (some .boolean)) {a : Int32} (ha : a = 0 ∨ a = 1) (hd : decode cc pc = .ok (.ireturn, 1)) : V x Wf nL (QI x Wf (a, S)) S pc L [.int a] := by
  obtain ⟨p, l, en, R, s, m, args, below, meth, c, D, q, ar, A⟩ := x
  obtain ⟨hx, hb, hml, hown, hts, hK, hD, hN, hlk, hA, hR, hr⟩ := C
  exact fun H locs ls h hP hS => W.zret (v := a) hx hb hr (by rcases ha with rfl | rfl <;> rfl) (fun t ht hW => ⟨⟨a, S, rfl, ⟨rfl, rfl⟩, by show va_P D vwCl (Wf q ar S) t.heap; rw [ht]; exact hP⟩, hS.F ht⟩) hS.2.2 hd
theorem v_lret (C : Cx x Wf cc own nL rm (some .long)) {a : Int64} (hd : decode cc pc = .ok (.lreturn, 1)) : V x Wf nL (QL x Wf (a, S)) S pc L [.long a] := by
  obtain ⟨p, l, en, R, s, m, args, below, meth, c, D, q, ar, A⟩ := x
  obtain ⟨hx, hb, hml, hown, hts, hK, hD, hN, hlk, hA, hR, hr⟩ := C
  exact fun H locs ls h hP hS => W.lret (v := a) hx hb hr (fun t ht hW => ⟨⟨a, S, rfl, ⟨rfl, rfl⟩, by show va_P D vwCl (Wf q ar S) t.heap; rw [ht]; exact hP⟩, hS.F ht⟩) hS.2.2 hd
theorem v_ret (C : Cx x Wf cc own nL rm none) (hd : decode cc pc = .ok (.return_, 1)) : V x Wf nL (QV x Wf S) S pc L [] := by
  obtain ⟨p, l, en, R, s, m, args, below, meth, c, D, q, ar, A⟩ := x
  obtain ⟨hx, hb, hml, hown, hts, hK, hD, hN, hlk, hA, hR, hr⟩ := C
  exact fun H locs ls h hP hS => W.vret hx hb hr (fun t ht hW => ⟨⟨S, rfl, rfl, by show va_P D vwCl (Wf q ar S) t.heap; rw [ht]; exact hP⟩, hS.F ht⟩) hS.2.2 hd
end Rules1
section Rules2
variable {x : Ctx} {Wf : WF} {cc : ByteArray} {own : String} {nL : Nat} {rm : Room} {ret : Option FieldType} {Q : State → Prop} {S S' : St} {pc n : Nat} {L L' : List (Nat × Value)} {st : List Value}
theorem v_get (C : Cx x Wf cc own nL rm ret) {k ci i N idx : Nat} {fs : List Value} {v : Value} {Cn : String} {T : u_T} (hg : (Wf (xq x) (xr x) S)[k]? = some (xq x k, .inr (ci, fs))) (hc : vwCl[ci]? = some (Cn, T, N)) (hi : i < N) (hv : fs[i]? = some v) (hin : ∀ w ∈ u_ws Cn T N, w ∈ wsL_law0)
    (hlk : Cond.fieldLink own idx (T i).1 (T i).2.1 (T i).2.2.1 ∈ wsL_law0) (hd : decode cc pc = .ok (.getfield idx, 3)) (hn : pc + 3 = n) (kk : V x Wf nL Q S n L (v :: st)) : V x Wf nL Q S pc L (.ref (xq x k) :: st) := by
  obtain ⟨p, l, en, R, s, m, args, below, meth, c, D, q, ar, A⟩ := x
  obtain ⟨hx, hb, hml, hown, hts, hK, hD, hN, hlk2, hA, hR, hr⟩ := C
  subst hn
  exact fun H locs ls h hP hS => va_get hx hb hts hin hown hK hP k hg hc i hi (hts _ hlk) (fun _ h9 => h9) hv hd (kk H locs ls h hP hS)
theorem v_put (C : Cx x Wf cc own nL rm ret) {k ci i N idx : Nat} {fs : List Value} {v : Value} {Cn : String} {T : u_T} {ty : FieldType} (hg : (Wf (xq x) (xr x) S)[k]? = some (xq x k, .inr (ci, fs))) (hc : vwCl[ci]? = some (Cn, T, N)) (hi : i < N) (hl : i < fs.length) (hin : ∀ w ∈ u_ws Cn T N, w ∈ wsL_law0)
    (ty0 : Nat → FieldType) (hty : ∀ k, k < N → parseFieldDescriptor (T k).2.2.1 = some (ty0 k)) (hnm : ∀ a, a < N → ∀ b, b < N → a ≠ b → (T a).2.1 ≠ (T b).2.1) (hfin : (T i).2.2.2 = false) (hpd : parseFieldDescriptor (T i).2.2.1 = some ty) (hna : narrow ty v = v) (hfit : fits ty v = true)
    (hlk : Cond.fieldLink own idx (T i).1 (T i).2.1 (T i).2.2.1 ∈ wsL_law0) (hd : decode cc pc = .ok (.putfield idx, 3)) (hn : pc + 3 = n)
    (hset : (Wf (xq x) (xr x) S).set k (xq x k, .inr (ci, fs.set i v)) = Wf (xq x) (xr x) S') (kk : V x Wf nL Q S' n L st) : V x Wf nL Q S pc L (v :: .ref (xq x k) :: st) := by
  obtain ⟨p, l, en, R, s, m, args, below, meth, c, D, q, ar, A⟩ := x
  obtain ⟨hx, hb, hml, hown, hts, hK, hD, hN, hlk2, hA, hR, hr⟩ := C
  subst hn
  exact fun H locs ls h hP hS => va_put hx hb hts hin ty0 hty hnm hown hK hP (hD S) hS k hg hc i hi (hts _ hlk) (fun _ h9 => h9) hfin hpd hna hfit hl hd (fun H1 locs1 hP1 _ hS1 => kk H1 locs1 ls h (by have hset : (Wf q ar S).set k _ = Wf q ar S' := hset; rw [← hset]; exact hP1) hS1)
theorem v_iald (C : Cx x Wf cc own nL rm ret) {k N : Nat} {f : Nat → Int32} {i : Int32} (hg : (Wf (xq x) (xr x) S)[k]? = some (xq x k, .inl ((xr x).1, N, .inl f))) (hin : vp_in i N) (hd : decode cc pc = .ok (.iaload, 1)) (hn : pc + 1 = n) (kk : V x Wf nL Q S n L (.int (f i.toNatClampNeg) :: st)) : V x Wf nL Q S pc L (.int i :: .ref (xq x k) :: st) := by
  obtain ⟨p, l, en, R, s, m, args, below, meth, c, D, q, ar, A⟩ := x
  obtain ⟨hx, hb, hml, hown, hts, hK, hD, hN, hlk2, hA, hR, hr⟩ := C
  subst hn
  exact fun H locs ls h hP hS => va_iald hx hb hK hP k 0 hg rfl hin hd (kk H locs ls h hP hS)
theorem v_zald (C : Cx x Wf cc own nL rm ret) {k N : Nat} {f : Nat → Int32} {i : Int32} (hg : (Wf (xq x) (xr x) S)[k]? = some (xq x k, .inl ((xr x).2.1, N, .inl f))) (hin : vp_in i N) (hd : decode cc pc = .ok (.baload, 1)) (hn : pc + 1 = n) (kk : V x Wf nL Q S n L (.int (f i.toNatClampNeg) :: st)) : V x Wf nL Q S pc L (.int i :: .ref (xq x k) :: st) := by
  obtain ⟨p, l, en, R, s, m, args, below, meth, c, D, q, ar, A⟩ := x
  obtain ⟨hx, hb, hml, hown, hts, hK, hD, hN, hlk2, hA, hR, hr⟩ := C
  subst hn
  exact fun H locs ls h hP hS => va_zald hx hb hK hP k 1 hg rfl hin hd (kk H locs ls h hP hS)
theorem v_iast (C : Cx x Wf cc own nL rm ret) {k N : Nat} {f : Nat → Int32} {i v : Int32} (hg : (Wf (xq x) (xr x) S)[k]? = some (xq x k, .inl ((xr x).1, N, .inl f))) (hin : vp_in i N) (hd : decode cc pc = .ok (.iastore, 1)) (hn : pc + 1 = n)
    (hset : (Wf (xq x) (xr x) S).set k (xq x k, .inl ((xr x).1, N, .inl (upd f i.toNatClampNeg v))) = Wf (xq x) (xr x) S') (kk : V x Wf nL Q S' n L st) : V x Wf nL Q S pc L (.int v :: .int i :: .ref (xq x k) :: st) := by
  obtain ⟨p, l, en, R, s, m, args, below, meth, c, D, q, ar, A⟩ := x
  obtain ⟨hx, hb, hml, hown, hts, hK, hD, hN, hlk2, hA, hR, hr⟩ := C
  subst hn
  exact fun H locs ls h hP hS => va_iast hx hb hK hP (hD S) hS k 0 hg rfl hin hd (fun H1 locs1 hP1 _ hS1 => kk H1 locs1 ls h (by have hset : (Wf q ar S).set k _ = Wf q ar S' := hset; rw [← hset]; exact hP1) hS1)
theorem v_zast (C : Cx x Wf cc own nL rm ret) {k N : Nat} {f : Nat → Int32} {i v : Int32} (hg : (Wf (xq x) (xr x) S)[k]? = some (xq x k, .inl ((xr x).2.1, N, .inl f))) (hin : vp_in i N) (hd : decode cc pc = .ok (.bastore, 1)) (hn : pc + 1 = n)
    (hset : (Wf (xq x) (xr x) S).set k (xq x k, .inl ((xr x).2.1, N, .inl (upd f i.toNatClampNeg (vp_nar .boolean v)))) = Wf (xq x) (xr x) S') (kk : V x Wf nL Q S' n L st) : V x Wf nL Q S pc L (.int v :: .int i :: .ref (xq x k) :: st) := by
  obtain ⟨p, l, en, R, s, m, args, below, meth, c, D, q, ar, A⟩ := x
  obtain ⟨hx, hb, hml, hown, hts, hK, hD, hN, hlk2, hA, hR, hr⟩ := C
  subst hn
  exact fun H locs ls h hP hS => va_zast hx hb hK hP (hD S) hS k 1 hg rfl hin hd (fun H1 locs1 hP1 _ hS1 => kk H1 locs1 ls h (by have hset : (Wf q ar S).set k _ = Wf q ar S' := hset; rw [← hset]; exact hP1) hS1)
theorem v_alen (C : Cx x Wf cc own nL rm ret) {k N : Nat} {f : Nat → Int32} {v : Int32} (hg : (Wf (xq x) (xr x) S)[k]? = some (xq x k, .inl ((xr x).1, N, .inl f))) (hv : Int32.ofNat N = v) (hd : decode cc pc = .ok (.arraylength, 1)) (hn : pc + 1 = n) (kk : V x Wf nL Q S n L (.int v :: st)) : V x Wf nL Q S pc L (.ref (xq x k) :: st) := by
  obtain ⟨p, l, en, R, s, m, args, below, meth, c, D, q, ar, A⟩ := x
  obtain ⟨hx, hb, hml, hown, hts, hK, hD, hN, hlk2, hA, hR, hr⟩ := C
  subst hn
  exact fun H locs ls h hP hS => va_alen hx hb hK hP k 0 hg rfl hv hd (kk H locs ls h hP hS)
end Rules2
theorem good_big {y : MethodName} {bytes : ByteArray} {mL : Nat} {rt : Option FieldType} (h : Cond.code y bytes mL rt ∈ wsL_law0) : GoodIn wsL_law0 (Cond.code y bytes mL rt :: wsL_law0) := by
  intro w hw
  have hm : w ∈ wsL_law0 := by
    rcases List.mem_cons.mp hw with rfl | h1
    · exact h
    · exact h1
  exact ⟨hm, good_of_word (List.all_eq_true.mp big_good w hm)⟩
/-- what a call wants of its callee: an instance method of C, a static method -/
def CalV (y : MethodName) (bytes : ByteArray) (mL : Nat) (rt : Option FieldType) (C : String) (nA : Nat) : Prop := Cond.code y bytes mL rt ∈ wsL_law0 ∧ Cond.instanceMethod y ∈ wsL_law0 ∧ Cond.selects C y y ∈ wsL_law0 ∧ Cond.initialized C ∈ wsL_law0 ∧ y.cls = C ∧ y.cls ≠ "java/lang/invoke/MethodHandle" ∧ y.cls ≠ "java/lang/invoke/VarHandle" ∧ (parseMethodDescriptor y.desc).map (fun d => d.parameters.length) = some nA
def CalS (y : MethodName) (bytes : ByteArray) (mL : Nat) (rt : Option FieldType) (nA : Nat) : Prop := Cond.code y bytes mL rt ∈ wsL_law0 ∧ Cond.static y ∈ wsL_law0 ∧ Cond.initialized y.cls ∈ wsL_law0 ∧ y.cls ≠ "java/lang/invoke/MethodHandle" ∧ y.cls ≠ "java/lang/invoke/VarHandle" ∧ (parseMethodDescriptor y.desc).map (fun d => d.parameters.length) = some nA
def Fits (rm' rm : Room) (mL : Nat) : Prop := rm'.cells = 0 ∧ rm'.slots = 0 ∧ rm'.frames + 1 ≤ rm.frames ∧ 8 + (mL + 11) + rm'.locals ≤ rm.locals
theorem inA {A : Nat → Prop} {ws : va_W} {H0 H : Heap} {locs : List Loc} (hD : va_D A ws) (hS : va_S A H0 H locs) (hA : ∀ a, H0.size ≤ a → A a) : ∀ a, va_A ws H.size a → A a := by
  intro a h
  rcases h with ⟨k, e, h⟩ | h
  · exact hD.2 k (a, e) h
  · exact hA a (Nat.le_trans hS.1 h)
section Rules3
variable {x : Ctx} {Wf : WF} {cc : ByteArray} {own : String} {nL : Nat} {rm : Room} {ret : Option FieldType} {Q : State → Prop} {S T : St} {pc n : Nat} {L : List (Nat × Value)} {st st0 : List Value}
theorem v_callVI (C : Cx x Wf cc own nL rm ret) {y : MethodName} {bytes : ByteArray} {mL nA idx k ci N : Nat} {rt : Option FieldType} {C2 : String} {rm2 : Room} {fs As : List Value} {T2 : u_T} {a : Int32} (hM : MetI (xl x) (xD x) (xq x) (xr x) Wf y bytes mL rt rm2 (.ref (xq x k) :: As) S (a, T)) (hC : CalV y bytes mL rt C2 nA) (hlk : Cond.methodLink own idx y ∈ wsL_law0) (hg : (Wf (xq x) (xr x) S)[k]? = some (xq x k, .inr (ci, fs))) (hc : vwCl[ci]? = some (C2, T2, N)) (hF : Fits rm2 rm mL) (hAs : As.length = nA) (hst : st0 = As.reverse ++ .ref (xq x k) :: st) (hw : (st.map fun v => v.category).sum ≤ 8) (hd : decode cc pc = .ok (.invokevirtual idx, 3)) (hn : pc + 3 = n) (kk : V x Wf nL Q T n L (.int a :: st)) : V x Wf nL Q S pc L st0 := by
  obtain ⟨p, l, en, R, s, m, args, below, meth, c, D, q, ar, A⟩ := x
  obtain ⟨hx, hb, hml, hown, hts, hK, hD, hN, hlk2, hA, hR, hr⟩ := C
  subst hn; subst hR; subst hst
  obtain ⟨hcode, hins, hsel, hini, hyc, hd1, hd2, hd3⟩ := hC
  subst hyc
  intro H locs ls h hP hS
  have hFc := inA (hD S) hS hA
  refine va_calli (va_runV (As := As) (rest := st) ⟨hx, hb, hml, hown, hts⟩ (hM H.size) ⟨callB_of nA hts (good_big hcode) rfl hF.1 hF.2.1 (hts _ hini) (hts _ hlk) ⟨hd1, hd2, hd3⟩ hF.2.2, hts _ hins, hts _ hsel⟩ ⟨Pre.blind, va_recv hK hP hc hg, fun U hU hW => ⟨rfl, by rw [hU], by rw [hU]; exact hP, va_K.moved hW.alike hK, (hD S).weaken (fun _ _ _ _ => trivial), hN.warm hW⟩⟩ rfl hAs h.1 rfl (lv_room hw) hd ⟨Nat.zero_le _, Nat.zero_le _⟩) hS (fun a _ ha => hFc a ha) hFc (fun r u t H1 locs1 ht hvm hw2 hB hz hk hS1 => ?_)
  obtain ⟨rfl, rfl⟩ := hw2
  exact kk H1 locs1 ls h (by rw [← ht]; exact hB) hS1
theorem v_callSI (C : Cx x Wf cc own nL rm ret) {y : MethodName} {bytes : ByteArray} {mL nA idx : Nat} {rt : Option FieldType} {rm2 : Room} {As : List Value} {a : Int32} (hM : MetI (xl x) (xD x) (xq x) (xr x) Wf y bytes mL rt rm2 As S (a, T)) (hC : CalS y bytes mL rt nA) (hlk : Cond.methodLink own idx y ∈ wsL_law0) (hF : Fits rm2 rm mL) (hAs : As.length = nA) (hst : st0 = As.reverse ++ st) (hw : (st.map fun v => v.category).sum ≤ 8) (hd : decode cc pc = .ok (.invokestatic idx, 3)) (hn : pc + 3 = n) (kk : V x Wf nL Q T n L (.int a :: st)) : V x Wf nL Q S pc L st0 := by
  obtain ⟨p, l, en, R, s, m, args, below, meth, c, D, q, ar, A⟩ := x
  obtain ⟨hx, hb, hml, hown, hts, hK, hD, hN, hlk2, hA, hR, hr⟩ := C
  subst hn; subst hR; subst hst
  obtain ⟨hcode, hsta, hini, hd1, hd2, hd3⟩ := hC
  intro H locs ls h hP hS
  have hFc := inA (hD S) hS hA
  refine va_calli (va_runS (As := As) (rest := st) ⟨hx, hb, hml, hown, hts⟩ (hM H.size) ⟨callB_of nA hts (good_big hcode) rfl hF.1 hF.2.1 (hts _ hini) (hts _ hlk) ⟨hd1, hd2, hd3⟩ hF.2.2, hts _ hsta⟩ ⟨Pre.blind, fun U hU hW => ⟨rfl, by rw [hU], by rw [hU]; exact hP, va_K.moved hW.alike hK, (hD S).weaken (fun _ _ _ _ => trivial), hN.warm hW⟩⟩ rfl hAs h.1 rfl (lv_room hw) hd ⟨Nat.zero_le _, Nat.zero_le _⟩) hS (fun a _ ha => hFc a ha) hFc (fun r u t H1 locs1 ht hvm hw2 hB hz hk hS1 => ?_)
  obtain ⟨rfl, rfl⟩ := hw2
  exact kk H1 locs1 ls h (by rw [← ht]; exact hB) hS1
theorem v_callNI (C : Cx x Wf cc own nL rm ret) {y : MethodName} {bytes : ByteArray} {mL nA idx : Nat} {host : String} {rt : Option FieldType} {rm2 : Room} {As : List Value} {a : Int32} (hM : MetI (xl x) (xD x) (xq x) (xr x) Wf y bytes mL rt rm2 As S (a, T)) (hC : CalS y bytes mL rt nA) (hlk : (own, idx, y, host) ∈ nestW) (hF : Fits rm2 rm mL) (hAs : As.length = nA) (hst : st0 = As.reverse ++ st) (hw : (st.map fun v => v.category).sum ≤ 8) (hd : decode cc pc = .ok (.invokestatic idx, 3)) (hn : pc + 3 = n) (kk : V x Wf nL Q T n L (.int a :: st)) : V x Wf nL Q S pc L st0 := by
  obtain ⟨p, l, en, R, s, m, args, below, meth, c, D, q, ar, A⟩ := x
  obtain ⟨hx, hb, hml, hown, hts, hK, hD, hN, hlk2, hA, hR, hr⟩ := C
  subst hn; subst hR; subst hst
  obtain ⟨hcode, hsta, hini, hd1, hd2, hd3⟩ := hC
  intro H locs ls h hP hS
  have hFc := inA (hD S) hS hA
  refine va_calli (va_runSN (As := As) (rest := st) ⟨hx, hb, hml, hown, hts⟩ (hM H.size) ⟨va_cnB nA hts (good_big hcode) rfl hF.1 hF.2.1 (hN _ hlk) (hts _ hini) ⟨hd1, hd2, hd3⟩ hF.2.2, hts _ hsta, trivial⟩ ⟨Pre.blind, fun U hU hW => ⟨rfl, by rw [hU], by rw [hU]; exact hP, va_K.moved hW.alike hK, (hD S).weaken (fun _ _ _ _ => trivial), hN.warm hW⟩⟩ rfl hAs h.1 rfl (lv_room hw) hd ⟨Nat.zero_le _, Nat.zero_le _⟩) hS (fun a _ ha => hFc a ha) hFc (fun r u t H1 locs1 ht hvm hw2 hB hz hk hS1 => ?_)
  obtain ⟨rfl, rfl⟩ := hw2
  exact kk H1 locs1 ls h (by rw [← ht]; exact hB) hS1
theorem v_callVL (C : Cx x Wf cc own nL rm ret) {y : MethodName} {bytes : ByteArray} {mL nA idx k ci N : Nat} {rt : Option FieldType} {C2 : String} {rm2 : Room} {fs As : List Value} {T2 : u_T} {a : Int64} (hM : MetL (xl x) (xD x) (xq x) (xr x) Wf y bytes mL rt rm2 (.ref (xq x k) :: As) S (a, T)) (hC : CalV y bytes mL rt C2 nA) (hlk : Cond.methodLink own idx y ∈ wsL_law0) (hg : (Wf (xq x) (xr x) S)[k]? = some (xq x k, .inr (ci, fs))) (hc : vwCl[ci]? = some (C2, T2, N)) (hF : Fits rm2 rm mL) (hAs : As.length = nA) (hst : st0 = As.reverse ++ .ref (xq x k) :: st) (hw : (st.map fun v => v.category).sum ≤ 8) (hd : decode cc pc = .ok (.invokevirtual idx, 3)) (hn : pc + 3 = n) (kk : V x Wf nL Q T n L (.long a :: st)) : V x Wf nL Q S pc L st0 := by
  obtain ⟨p, l, en, R, s, m, args, below, meth, c, D, q, ar, A⟩ := x
  obtain ⟨hx, hb, hml, hown, hts, hK, hD, hN, hlk2, hA, hR, hr⟩ := C
  subst hn; subst hR; subst hst
  obtain ⟨hcode, hins, hsel, hini, hyc, hd1, hd2, hd3⟩ := hC
  subst hyc
  intro H locs ls h hP hS
  have hFc := inA (hD S) hS hA
  refine va_calll (va_runV (As := As) (rest := st) ⟨hx, hb, hml, hown, hts⟩ (hM H.size) ⟨callB_of nA hts (good_big hcode) rfl hF.1 hF.2.1 (hts _ hini) (hts _ hlk) ⟨hd1, hd2, hd3⟩ hF.2.2, hts _ hins, hts _ hsel⟩ ⟨Pre.blind, va_recv hK hP hc hg, fun U hU hW => ⟨rfl, by rw [hU], by rw [hU]; exact hP, va_K.moved hW.alike hK, (hD S).weaken (fun _ _ _ _ => trivial), hN.warm hW⟩⟩ rfl hAs h.1 rfl (lv_room hw) hd ⟨Nat.zero_le _, Nat.zero_le _⟩) hS (fun a _ ha => hFc a ha) hFc (fun r u t H1 locs1 ht hvm hw2 hB hz hk hS1 => ?_)
  obtain ⟨rfl, rfl⟩ := hw2
  exact kk H1 locs1 ls h (by rw [← ht]; exact hB) hS1
theorem v_callSL (C : Cx x Wf cc own nL rm ret) {y : MethodName} {bytes : ByteArray} {mL nA idx : Nat} {rt : Option FieldType} {rm2 : Room} {As : List Value} {a : Int64} (hM : MetL (xl x) (xD x) (xq x) (xr x) Wf y bytes mL rt rm2 As S (a, T)) (hC : CalS y bytes mL rt nA) (hlk : Cond.methodLink own idx y ∈ wsL_law0) (hF : Fits rm2 rm mL) (hAs : As.length = nA) (hst : st0 = As.reverse ++ st) (hw : (st.map fun v => v.category).sum ≤ 8) (hd : decode cc pc = .ok (.invokestatic idx, 3)) (hn : pc + 3 = n) (kk : V x Wf nL Q T n L (.long a :: st)) : V x Wf nL Q S pc L st0 := by
  obtain ⟨p, l, en, R, s, m, args, below, meth, c, D, q, ar, A⟩ := x
  obtain ⟨hx, hb, hml, hown, hts, hK, hD, hN, hlk2, hA, hR, hr⟩ := C
  subst hn; subst hR; subst hst
  obtain ⟨hcode, hsta, hini, hd1, hd2, hd3⟩ := hC
  intro H locs ls h hP hS
  have hFc := inA (hD S) hS hA
  refine va_calll (va_runS (As := As) (rest := st) ⟨hx, hb, hml, hown, hts⟩ (hM H.size) ⟨callB_of nA hts (good_big hcode) rfl hF.1 hF.2.1 (hts _ hini) (hts _ hlk) ⟨hd1, hd2, hd3⟩ hF.2.2, hts _ hsta⟩ ⟨Pre.blind, fun U hU hW => ⟨rfl, by rw [hU], by rw [hU]; exact hP, va_K.moved hW.alike hK, (hD S).weaken (fun _ _ _ _ => trivial), hN.warm hW⟩⟩ rfl hAs h.1 rfl (lv_room hw) hd ⟨Nat.zero_le _, Nat.zero_le _⟩) hS (fun a _ ha => hFc a ha) hFc (fun r u t H1 locs1 ht hvm hw2 hB hz hk hS1 => ?_)
  obtain ⟨rfl, rfl⟩ := hw2
  exact kk H1 locs1 ls h (by rw [← ht]; exact hB) hS1
theorem v_callNL (C : Cx x Wf cc own nL rm ret) {y : MethodName} {bytes : ByteArray} {mL nA idx : Nat} {host : String} {rt : Option FieldType} {rm2 : Room} {As : List Value} {a : Int64} (hM : MetL (xl x) (xD x) (xq x) (xr x) Wf y bytes mL rt rm2 As S (a, T)) (hC : CalS y bytes mL rt nA) (hlk : (own, idx, y, host) ∈ nestW) (hF : Fits rm2 rm mL) (hAs : As.length = nA) (hst : st0 = As.reverse ++ st) (hw : (st.map fun v => v.category).sum ≤ 8) (hd : decode cc pc = .ok (.invokestatic idx, 3)) (hn : pc + 3 = n) (kk : V x Wf nL Q T n L (.long a :: st)) : V x Wf nL Q S pc L st0 := by
  obtain ⟨p, l, en, R, s, m, args, below, meth, c, D, q, ar, A⟩ := x
  obtain ⟨hx, hb, hml, hown, hts, hK, hD, hN, hlk2, hA, hR, hr⟩ := C
  subst hn; subst hR; subst hst
  obtain ⟨hcode, hsta, hini, hd1, hd2, hd3⟩ := hC
  intro H locs ls h hP hS
  have hFc := inA (hD S) hS hA
  refine va_calll (va_runSN (As := As) (rest := st) ⟨hx, hb, hml, hown, hts⟩ (hM H.size) ⟨va_cnB nA hts (good_big hcode) rfl hF.1 hF.2.1 (hN _ hlk) (hts _ hini) ⟨hd1, hd2, hd3⟩ hF.2.2, hts _ hsta, trivial⟩ ⟨Pre.blind, fun U hU hW => ⟨rfl, by rw [hU], by rw [hU]; exact hP, va_K.moved hW.alike hK, (hD S).weaken (fun _ _ _ _ => trivial), hN.warm hW⟩⟩ rfl hAs h.1 rfl (lv_room hw) hd ⟨Nat.zero_le _, Nat.zero_le _⟩) hS (fun a _ ha => hFc a ha) hFc (fun r u t H1 locs1 ht hvm hw2 hB hz hk hS1 => ?_)
  obtain ⟨rfl, rfl⟩ := hw2
  exact kk H1 locs1 ls h (by rw [← ht]; exact hB) hS1
theorem v_callVV (C : Cx x Wf cc own nL rm ret) {y : MethodName} {bytes : ByteArray} {mL nA idx k ci N : Nat} {rt : Option FieldType} {C2 : String} {rm2 : Room} {fs As : List Value} {T2 : u_T} (hM : MetV (xl x) (xD x) (xq x) (xr x) Wf y bytes mL rt rm2 (.ref (xq x k) :: As) S T) (hC : CalV y bytes mL rt C2 nA) (hlk : Cond.methodLink own idx y ∈ wsL_law0) (hg : (Wf (xq x) (xr x) S)[k]? = some (xq x k, .inr (ci, fs))) (hc : vwCl[ci]? = some (C2, T2, N)) (hF : Fits rm2 rm mL) (hAs : As.length = nA) (hst : st0 = As.reverse ++ .ref (xq x k) :: st) (hw : (st.map fun v => v.category).sum ≤ 8) (hd : decode cc pc = .ok (.invokevirtual idx, 3)) (hn : pc + 3 = n) (kk : V x Wf nL Q T n L (st)) : V x Wf nL Q S pc L st0 := by
  obtain ⟨p, l, en, R, s, m, args, below, meth, c, D, q, ar, A⟩ := x
  obtain ⟨hx, hb, hml, hown, hts, hK, hD, hN, hlk2, hA, hR, hr⟩ := C
  subst hn; subst hR; subst hst
  obtain ⟨hcode, hins, hsel, hini, hyc, hd1, hd2, hd3⟩ := hC
  subst hyc
  intro H locs ls h hP hS
  have hFc := inA (hD S) hS hA
  refine va_callv (va_runV (As := As) (rest := st) ⟨hx, hb, hml, hown, hts⟩ (hM H.size) ⟨callB_of nA hts (good_big hcode) rfl hF.1 hF.2.1 (hts _ hini) (hts _ hlk) ⟨hd1, hd2, hd3⟩ hF.2.2, hts _ hins, hts _ hsel⟩ ⟨Pre.blind, va_recv hK hP hc hg, fun U hU hW => ⟨rfl, by rw [hU], by rw [hU]; exact hP, va_K.moved hW.alike hK, (hD S).weaken (fun _ _ _ _ => trivial), hN.warm hW⟩⟩ rfl hAs h.1 rfl (lv_room hw) hd ⟨Nat.zero_le _, Nat.zero_le _⟩) hS (fun a _ ha => hFc a ha) hFc (fun u t H1 locs1 ht hvm hw2 hB hz hk hS1 => ?_)
  obtain rfl := hw2
  exact kk H1 locs1 ls h (by rw [← ht]; exact hB) hS1
theorem v_callSV (C : Cx x Wf cc own nL rm ret) {y : MethodName} {bytes : ByteArray} {mL nA idx : Nat} {rt : Option FieldType} {rm2 : Room} {As : List Value} (hM : MetV (xl x) (xD x) (xq x) (xr x) Wf y bytes mL rt rm2 As S T) (hC : CalS y bytes mL rt nA) (hlk : Cond.methodLink own idx y ∈ wsL_law0) (hF : Fits rm2 rm mL) (hAs : As.length = nA) (hst : st0 = As.reverse ++ st) (hw : (st.map fun v => v.category).sum ≤ 8) (hd : decode cc pc = .ok (.invokestatic idx, 3)) (hn : pc + 3 = n) (kk : V x Wf nL Q T n L (st)) : V x Wf nL Q S pc L st0 := by
  obtain ⟨p, l, en, R, s, m, args, below, meth, c, D, q, ar, A⟩ := x
  obtain ⟨hx, hb, hml, hown, hts, hK, hD, hN, hlk2, hA, hR, hr⟩ := C
  subst hn; subst hR; subst hst
  obtain ⟨hcode, hsta, hini, hd1, hd2, hd3⟩ := hC
  intro H locs ls h hP hS
  have hFc := inA (hD S) hS hA
  refine va_callv (va_runS (As := As) (rest := st) ⟨hx, hb, hml, hown, hts⟩ (hM H.size) ⟨callB_of nA hts (good_big hcode) rfl hF.1 hF.2.1 (hts _ hini) (hts _ hlk) ⟨hd1, hd2, hd3⟩ hF.2.2, hts _ hsta⟩ ⟨Pre.blind, fun U hU hW => ⟨rfl, by rw [hU], by rw [hU]; exact hP, va_K.moved hW.alike hK, (hD S).weaken (fun _ _ _ _ => trivial), hN.warm hW⟩⟩ rfl hAs h.1 rfl (lv_room hw) hd ⟨Nat.zero_le _, Nat.zero_le _⟩) hS (fun a _ ha => hFc a ha) hFc (fun u t H1 locs1 ht hvm hw2 hB hz hk hS1 => ?_)
  obtain rfl := hw2
  exact kk H1 locs1 ls h (by rw [← ht]; exact hB) hS1
theorem v_callNV (C : Cx x Wf cc own nL rm ret) {y : MethodName} {bytes : ByteArray} {mL nA idx : Nat} {host : String} {rt : Option FieldType} {rm2 : Room} {As : List Value} (hM : MetV (xl x) (xD x) (xq x) (xr x) Wf y bytes mL rt rm2 As S T) (hC : CalS y bytes mL rt nA) (hlk : (own, idx, y, host) ∈ nestW) (hF : Fits rm2 rm mL) (hAs : As.length = nA) (hst : st0 = As.reverse ++ st) (hw : (st.map fun v => v.category).sum ≤ 8) (hd : decode cc pc = .ok (.invokestatic idx, 3)) (hn : pc + 3 = n) (kk : V x Wf nL Q T n L (st)) : V x Wf nL Q S pc L st0 := by
  obtain ⟨p, l, en, R, s, m, args, below, meth, c, D, q, ar, A⟩ := x
  obtain ⟨hx, hb, hml, hown, hts, hK, hD, hN, hlk2, hA, hR, hr⟩ := C
  subst hn; subst hR; subst hst
  obtain ⟨hcode, hsta, hini, hd1, hd2, hd3⟩ := hC
  intro H locs ls h hP hS
  have hFc := inA (hD S) hS hA
  refine va_callv (va_runSN (As := As) (rest := st) ⟨hx, hb, hml, hown, hts⟩ (hM H.size) ⟨va_cnB nA hts (good_big hcode) rfl hF.1 hF.2.1 (hN _ hlk) (hts _ hini) ⟨hd1, hd2, hd3⟩ hF.2.2, hts _ hsta, trivial⟩ ⟨Pre.blind, fun U hU hW => ⟨rfl, by rw [hU], by rw [hU]; exact hP, va_K.moved hW.alike hK, (hD S).weaken (fun _ _ _ _ => trivial), hN.warm hW⟩⟩ rfl hAs h.1 rfl (lv_room hw) hd ⟨Nat.zero_le _, Nat.zero_le _⟩) hS (fun a _ ha => hFc a ha) hFc (fun u t H1 locs1 ht hvm hw2 hB hz hk hS1 => ?_)
  obtain rfl := hw2
  exact kk H1 locs1 ls h (by rw [← ht]; exact hB) hS1
def imin (a b : Int32) : Int32 := if b < a then b else a
theorem v_min (C : Cx x Wf cc own nL rm ret) {a b : Int32} {idx : Nat} (hlk : Cond.methodLink own idx Lib.Math.min.name ∈ wsL_law0) (hsta : Cond.static Lib.Math.min.name ∈ wsL_law0) (hini : Cond.initialized "java/lang/Math" ∈ wsL_law0) (hcode : Cond.code Lib.Math.min.name Lib.Math.min.code 2 (some .int) ∈ wsL_law0) (hf : 1 ≤ rm.frames) (hl : (st.map fun v => v.category).sum + 13 ≤ rm.locals) (hd : decode cc pc = .ok (.invokestatic idx, 3)) (hn : pc + 3 = n) (kk : V x Wf nL Q S n L (.int (imin a b) :: st)) : V x Wf nL Q S pc L (.int b :: .int a :: st) := by
  obtain ⟨p, l, en, R, s, m, args, below, meth, c, D, q, ar, A⟩ := x
  obtain ⟨hx, hb, hml, hown, hts, hK, hD, hN, hlk2, hA, hR, hr⟩ := C
  subst hn; subst hR
  intro H locs ls h hP hS
  exact va_mmin hx hb (hml.trans h.1.symm) hown (hts _ hlk) (hts _ hsta) (hts _ hini) (hts _ hcode) hf hl (Nat.zero_le _) (Nat.zero_le _) hd (kk H locs ls h hP hS)
end Rules3
theorem metI_ofF {l : Launch} {D : va_G} {q : Nat → Nat} {ar : Ar} {Wf : WF} (hW : AdrOk Wf) {y : MethodName} {cc : ByteArray} {nL : Nat} {ret : Option FieldType} {rm : Room} {av : List Value} {S : St} {res : Int32 × St} (hy : plainFor y = true) (hl : (lg_sl av).length ≤ nL)
    (body : ∀ x : Ctx, xl x = l → xD x = D → xq x = q → xr x = ar → Cx x Wf cc y.cls nL rm ret → V x Wf nL (QI x Wf res) S 0 (lv_args 0 av) []) : MetI l D q ar Wf y cc nL ret rm av S res := by
  intro sz
  refine va_MetF (cc := cc) (maxL := nL) (ret := ret) hy rfl ?_
  intro p e s m args below meth c s₁ B hml hv
  obtain ⟨rfl, hsz, hP, hK, hD, hN⟩ := hv
  subst hsz
  have C := mk_ctx hW B hml hK hD hN
  have h := body _ rfl rfl rfl rfl C
  rw [lg_entry_eq]
  exact h s.heap [] _ (lv_entry av hl) hP va_S.rf
/-! words for the functions that the methods are -/
def lt {α β : Type} (v : α) (k : α → Option β) : Option β := k v
theorem lt_e {α β : Type} {v : α} {k : α → Option β} {r : β} (h : lt v k = some r) : ∃ w, w = v ∧ k w = some r := ⟨v, rfl, h⟩
def ck {β : Type} (i : Int32) (n : Nat) (k : Option β) : Option β := if i < 0 ∨ n ≤ i.toNatClampNeg then none else k
theorem ck_e {β : Type} {i : Int32} {n : Nat} {k : Option β} {r : β} (h : ck i n k = some r) : vp_in i n ∧ k = some r := by
  unfold ck at h
  by_cases c : i < 0 ∨ n ≤ i.toNatClampNeg
  · rw [if_pos c] at h; cases h
  · rw [if_neg c] at h; exact ⟨c, h⟩
def ckn {β : Type} (b : Int32) (k : Option β) : Option β := if b = 0 then none else k
theorem ckn_e {β : Type} {b : Int32} {k : Option β} {r : β} (h : ckn b k = some r) : ¬ b = 0 ∧ k = some r := by
  unfold ckn at h
  by_cases c : b = 0
  · rw [if_pos c] at h; cases h
  · rw [if_neg c] at h; exact ⟨c, h⟩
def ckz {β : Type} (a : Int32) (k : Option β) : Option β := if a = 0 ∨ a = 1 then k else none
theorem ckz_e {β : Type} {a : Int32} {k : Option β} {r : β} (h : ckz a k = some r) : (a = 0 ∨ a = 1) ∧ k = some r := by
  unfold ckz at h
  by_cases c : a = 0 ∨ a = 1
  · rw [if_pos c] at h; exact ⟨c, h⟩
  · rw [if_neg c] at h; cases h
def ckr {β : Type} (r : Nat) (k : Option β) : Option β := if r = 16 ∨ r = 20 then k else none
theorem ckr_e {β : Type} {a : Nat} {k : Option β} {r : β} (h : ckr a k = some r) : (a = 16 ∨ a = 20) ∧ k = some r := by
  unfold ckr at h
  by_cases c : a = 16 ∨ a = 20
  · rw [if_pos c] at h; exact ⟨c, h⟩
  · rw [if_neg c] at h; cases h
def bI {β : Type} (o : Option (Int32 × St)) (k : Int32 → St → Option β) : Option β := match o with
  | none => none
  | some p => k p.1 p.2
theorem bI_e {β : Type} {o : Option (Int32 × St)} {k : Int32 → St → Option β} {r : β} (h : bI o k = some r) : ∃ a T, o = some (a, T) ∧ k a T = some r := by
  cases o with
  | none => cases h
  | some p => exact ⟨p.1, p.2, rfl, h⟩
def bL {β : Type} (o : Option (Int64 × St)) (k : Int64 → St → Option β) : Option β := match o with
  | none => none
  | some p => k p.1 p.2
theorem bL_e {β : Type} {o : Option (Int64 × St)} {k : Int64 → St → Option β} {r : β} (h : bL o k = some r) : ∃ a T, o = some (a, T) ∧ k a T = some r := by
  cases o with
  | none => cases h
  | some p => exact ⟨p.1, p.2, rfl, h⟩
def bV {β : Type} (o : Option St) (k : St → Option β) : Option β := match o with
  | none => none
  | some p => k p
theorem bV_e {β : Type} {o : Option St} {k : St → Option β} {r : β} (h : bV o k = some r) : ∃ T, o = some T ∧ k T = some r := by
  cases o with
  | none => cases h
  | some p => exact ⟨p, rfl, h⟩
theorem ite_p {β : Type} {c : Prop} [Decidable c] {a b : Option β} {r : β} (hc : c) (h : (if c then a else b) = some r) : a = some r := by rw [if_pos hc] at h; exact h
theorem ite_n {β : Type} {c : Prop} [Decidable c] {a b : Option β} {r : β} (hc : ¬ c) (h : (if c then a else b) = some r) : b = some r := by rw [if_neg hc] at h; exact h
/-- more rounds than any loop here makes -/
def fuel : Nat := 100000
