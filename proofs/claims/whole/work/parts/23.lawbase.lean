/-! the law's walk: the two systems' worlds and the law's own row, side by side -/
theorem P_swap {D : va_G} {cl : List vw_C} {w1 w2 : va_W} {H : Heap} (h : va_P D cl (w1 ++ w2) H) : va_P D cl (w2 ++ w1) H := va_P.app (P_app h).2 (P_app h).1
theorem D_swap {A : Nat → Prop} {w1 w2 : va_W} (h : va_D A (w1 ++ w2)) : va_D A (w2 ++ w1) := by
  obtain ⟨h1, h2, h3⟩ := D_app h
  exact va_D.app h2 h1 (fun i j p q hi hj e => h3 j i q p hj hi e.symm)
theorem D_in {A : Nat → Prop} {w1 w2 w3 : va_W} (h : va_D A (w1 ++ w2)) (h3 : va_D A w3) (hm : ∀ p, p ∈ w3 → p ∈ w2) : va_D A (w1 ++ w3) := by
  obtain ⟨h1, h2, hx⟩ := D_app h
  refine va_D.app h1 h3 (fun i j p q hi hj e => ?_)
  obtain ⟨k, hk⟩ := List.getElem?_of_mem (hm q (List.mem_of_getElem? hj))
  exact hx i k p q hi hk e
theorem D_rot {A : Nat → Prop} {a b c : va_W} (h : va_D A ((a ++ b) ++ c)) : va_D A ((a ++ c) ++ b) := by
  rw [List.append_assoc] at h ⊢
  exact D_in h (D_swap (D_app h).2.1) (fun p hp => by rcases List.mem_append.mp hp with q | q; exact List.mem_append_right _ q; exact List.mem_append_left _ q)
theorem P_rot {D : va_G} {cl : List vw_C} {a b c : va_W} {H : Heap} (h : va_P D cl ((a ++ b) ++ c) H) : va_P D cl ((a ++ c) ++ b) H := va_P.app (va_P.app (P_app (P_app h).1).1 (P_app h).2) (P_app (P_app h).1).2
/-- ((a b) c) to (b (a c)) and back -/
theorem D_r2 {A : Nat → Prop} {a b c : va_W} (h : va_D A ((a ++ b) ++ c)) : va_D A (b ++ (a ++ c)) := D_swap (D_rot h)
theorem P_r2 {D : va_G} {cl : List vw_C} {a b c : va_W} {H : Heap} (h : va_P D cl ((a ++ b) ++ c) H) : va_P D cl (b ++ (a ++ c)) H := P_swap (P_rot h)
theorem D_r3 {A : Nat → Prop} {a b c : va_W} (h : va_D A (b ++ (a ++ c))) : va_D A ((a ++ b) ++ c) := D_rot (D_swap h)
theorem P_r3 {D : va_G} {cl : List vw_C} {a b c : va_W} {H : Heap} (h : va_P D cl (b ++ (a ++ c)) H) : va_P D cl ((a ++ b) ++ c) H := P_rot (P_swap h)
def oRow (ao : Nat) (ar : Ar) (fo : Nat → Int64) : va_W := [(ao, .inl (ar.2.2, 1, .inr (.inl fo)))]
def LW (q q2 : Nat → Nat) (ao : Nat) (ar : Ar) (S T : St) (fo : Nat → Int64) : va_W := (oRow ao ar fo ++ WM q2 ar T) ++ WX q ar S
def CxG (x : Ctx) (cc : ByteArray) (own : String) (nL : Nat) (rm : Room) : Prop := match x with
  | (p, _, _, R, s, m, args, _, _, c, D, _, ar, A) => p.tables.exec = Jvm.exec ∧ c.code = cc ∧ c.maxLocals = nL ∧ s.vm.findClass own = some m.cls ∧ (∀ w ∈ bigX, w.before args s = true) ∧ va_K D vwCl (tyl ar) s ∧ NW s ∧ (∀ a, s.heap.size ≤ a → A a) ∧ R = rm
theorem good_X {y : MethodName} {bytes : ByteArray} {mL : Nat} {rt : Option FieldType} (h : Cond.code y bytes mL rt ∈ wsL_law0) : GoodIn bigX (Cond.code y bytes mL rt :: wsL_law0) := fun w hw => ⟨in_bigX w (good_big h w hw).1, (good_big h w hw).2⟩
def nz (w : Int32) : Int32 := if w = 0 then 0 else 1
section GRules
variable {x : Ctx} {cc : ByteArray} {own : String} {nL : Nat} {rm : Room} {Q : State → Prop} {ws ws' wr wc : va_W} {cs ss cs' ss' pc n : Nat} {L L' : List (Nat × Value)} {st st0 : List Value}
theorem u_widen (h1 : cs ≤ cs') (h2 : ss ≤ ss') (k : VW x nL Q ws cs' ss' pc L st) : VW x nL Q ws cs ss pc L st := by
  obtain ⟨p, l, en, R, s, m, args, below, meth, c, D, q, ar, A⟩ := x
  exact fun H locs ls h hP hD hS => W.widen h1 h2 (k H locs ls h hP hD hS)
theorem u_sub (ks : List Nat) (hl : lv_pick L ks = L') (k : VW x nL Q ws cs ss pc L' st) : VW x nL Q ws cs ss pc L st := by
  obtain ⟨p, l, en, R, s, m, args, below, meth, c, D, q, ar, A⟩ := x
  exact fun H locs ls h hP hD hS => k H locs ls (lv_sub h ks hl) hP hD hS
theorem u_iconst (C : CxG x cc own nL rm) {z : Int} {v : Int32} (hd : decode cc pc = .ok (.iconst z, 1)) (hv : Int32.ofInt z = v) (hn : pc + 1 = n) (k : VW x nL Q ws cs ss n L (.int v :: st)) : VW x nL Q ws cs ss pc L (st) := by
  obtain ⟨p, l, en, R, s, m, args, below, meth, c, D, q, ar, A⟩ := x
  subst hn
  exact fun H locs ls h hP hD hS => lv_iconst C.1 C.2.1 hd hv (k H locs ls h hP hD hS)
theorem u_bipush (C : CxG x cc own nL rm) {z : Int} {v : Int32} (hd : decode cc pc = .ok (.bipush z, 2)) (hv : (Int8.ofInt z).toInt32 = v) (hn : pc + 2 = n) (k : VW x nL Q ws cs ss n L (.int v :: st)) : VW x nL Q ws cs ss pc L (st) := by
  obtain ⟨p, l, en, R, s, m, args, below, meth, c, D, q, ar, A⟩ := x
  subst hn
  exact fun H locs ls h hP hD hS => lv_bipush C.1 C.2.1 hd hv (k H locs ls h hP hD hS)
theorem u_iload_n (C : CxG x cc own nL rm) {z : Fin 4} {i : Nat} {a : Int32} (j : Nat) (hd : decode cc pc = .ok (.iload_n z, 1)) (hi : (z : Nat) = i) (hj : L[j]? = some (i, .int a)) (hn : pc + 1 = n) (k : VW x nL Q ws cs ss n L (.int a :: st)) : VW x nL Q ws cs ss pc L (st) := by
  obtain ⟨p, l, en, R, s, m, args, below, meth, c, D, q, ar, A⟩ := x
  subst hn
  exact fun H locs ls h hP hD hS => lv_iload_n C.1 C.2.1 hd hi (lv_at h j hj) (k H locs ls h hP hD hS)
theorem u_aload_n (C : CxG x cc own nL rm) {z : Fin 4} {i : Nat} {a : Nat} (j : Nat) (hd : decode cc pc = .ok (.aload_n z, 1)) (hi : (z : Nat) = i) (hj : L[j]? = some (i, .ref a)) (hn : pc + 1 = n) (k : VW x nL Q ws cs ss n L (.ref a :: st)) : VW x nL Q ws cs ss pc L (st) := by
  obtain ⟨p, l, en, R, s, m, args, below, meth, c, D, q, ar, A⟩ := x
  subst hn
  exact fun H locs ls h hP hD hS => lv_aload_n C.1 C.2.1 hd hi (lv_at h j hj) (k H locs ls h hP hD hS)
theorem u_iload (C : CxG x cc own nL rm) {i : Nat} {a : Int32} (j : Nat) (hd : decode cc pc = .ok (.iload i, 2)) (hj : L[j]? = some (i, .int a)) (hn : pc + 2 = n) (k : VW x nL Q ws cs ss n L (.int a :: st)) : VW x nL Q ws cs ss pc L (st) := by
  obtain ⟨p, l, en, R, s, m, args, below, meth, c, D, q, ar, A⟩ := x
  subst hn
  exact fun H locs ls h hP hD hS => lv_iload C.1 C.2.1 hd (lv_at h j hj) (k H locs ls h hP hD hS)
theorem u_iadd (C : CxG x cc own nL rm) {a b : Int32} (hd : decode cc pc = .ok (.iadd, 1)) (hn : pc + 1 = n) (k : VW x nL Q ws cs ss n L (.int (a + b) :: st)) : VW x nL Q ws cs ss pc L (.int b :: .int a :: st) := by
  obtain ⟨p, l, en, R, s, m, args, below, meth, c, D, q, ar, A⟩ := x
  subst hn
  exact fun H locs ls h hP hD hS => lv_iadd C.1 C.2.1 hd (k H locs ls h hP hD hS)
theorem u_isub (C : CxG x cc own nL rm) {a b : Int32} (hd : decode cc pc = .ok (.isub, 1)) (hn : pc + 1 = n) (k : VW x nL Q ws cs ss n L (.int (a - b) :: st)) : VW x nL Q ws cs ss pc L (.int b :: .int a :: st) := by
  obtain ⟨p, l, en, R, s, m, args, below, meth, c, D, q, ar, A⟩ := x
  subst hn
  exact fun H locs ls h hP hD hS => lv_isub C.1 C.2.1 hd (k H locs ls h hP hD hS)
theorem u_iand (C : CxG x cc own nL rm) {a b : Int32} (hd : decode cc pc = .ok (.iand, 1)) (hn : pc + 1 = n) (k : VW x nL Q ws cs ss n L (.int (a &&& b) :: st)) : VW x nL Q ws cs ss pc L (.int b :: .int a :: st) := by
  obtain ⟨p, l, en, R, s, m, args, below, meth, c, D, q, ar, A⟩ := x
  subst hn
  exact fun H locs ls h hP hD hS => lv_iand C.1 C.2.1 hd (k H locs ls h hP hD hS)
theorem u_i2l (C : CxG x cc own nL rm) {a : Int32} (hd : decode cc pc = .ok (.i2l, 1)) (hn : pc + 1 = n) (k : VW x nL Q ws cs ss n L (.long a.toInt64 :: st)) : VW x nL Q ws cs ss pc L (.int a :: st) := by
  obtain ⟨p, l, en, R, s, m, args, below, meth, c, D, q, ar, A⟩ := x
  subst hn
  exact fun H locs ls h hP hD hS => lv_i2l C.1 C.2.1 hd rfl (k H locs ls h hP hD hS)
theorem u_lcmp (C : CxG x cc own nL rm) {a b : Int64} (hd : decode cc pc = .ok (.lcmp, 1)) (hn : pc + 1 = n) (k : VW x nL Q ws cs ss n L (.int (lg_cmp a b) :: st)) : VW x nL Q ws cs ss pc L (.long b :: .long a :: st) := by
  obtain ⟨p, l, en, R, s, m, args, below, meth, c, D, q, ar, A⟩ := x
  subst hn
  exact fun H locs ls h hP hD hS => W.lcmp C.1 C.2.1 hd (k H locs ls h hP hD hS)
theorem u_dup (C : CxG x cc own nL rm) {v : Value} (hd : decode cc pc = .ok (.dup, 1)) (hc : v.category = 1) (hn : pc + 1 = n) (k : VW x nL Q ws cs ss n L (v :: v :: st)) : VW x nL Q ws cs ss pc L (v :: st) := by
  obtain ⟨p, l, en, R, s, m, args, below, meth, c, D, q, ar, A⟩ := x
  subst hn
  exact fun H locs ls h hP hD hS => lv_dup C.1 C.2.1 hd hc (k H locs ls h hP hD hS)
theorem u_goto (C : CxG x cc own nL rm) {z : Int} (hd : decode cc pc = .ok (.goto z, 3)) (ht : (pc : Int) + z = (n : Int)) (k : VW x nL Q ws cs ss n L (st)) : VW x nL Q ws cs ss pc L (st) := by
  obtain ⟨p, l, en, R, s, m, args, below, meth, c, D, q, ar, A⟩ := x
  exact fun H locs ls h hP hD hS => lv_goto C.1 C.2.1 hd ht (k H locs ls h hP hD hS)
theorem u_istore (C : CxG x cc own nL rm) {i : Nat} {a : Int32} (hd : decode cc pc = .ok (.istore i, 2)) (hb : i < nL) (hl : (i, Value.int a) :: L.filter (fun q => !(q.1 == i) && !(q.1 + 1 == i && q.2.category == 2)) = L') (hn : pc + 2 = n) (k : VW x nL Q ws cs ss n L' st) : VW x nL Q ws cs ss pc L (Value.int a :: st) := by
  obtain ⟨p, l, en, R, s, m, args, below, meth, c, D, q, ar, A⟩ := x
  subst hn
  exact fun H locs ls h hP hD hS => lv_istore C.1 C.2.1 hd h hb hl (fun ls h => k H locs ls h hP hD hS)
theorem u_astore (C : CxG x cc own nL rm) {i : Nat} {a : Nat} (hd : decode cc pc = .ok (.astore i, 2)) (hb : i < nL) (hl : (i, Value.ref a) :: L.filter (fun q => !(q.1 == i) && !(q.1 + 1 == i && q.2.category == 2)) = L') (hn : pc + 2 = n) (k : VW x nL Q ws cs ss n L' st) : VW x nL Q ws cs ss pc L (Value.ref a :: st) := by
  obtain ⟨p, l, en, R, s, m, args, below, meth, c, D, q, ar, A⟩ := x
  subst hn
  exact fun H locs ls h hP hD hS => lv_astore C.1 C.2.1 hd h hb hl (fun ls h => k H locs ls h hP hD hS)
theorem u_astore_n (C : CxG x cc own nL rm) {z : Fin 4} {i a : Nat} (hd : decode cc pc = .ok (.astore_n z, 1)) (hi : (z : Nat) = i) (hb : i < nL) (hl : (i, Value.ref a) :: L.filter (fun q => !(q.1 == i) && !(q.1 + 1 == i && q.2.category == 2)) = L') (hn : pc + 1 = n) (k : VW x nL Q ws cs ss n L' st) : VW x nL Q ws cs ss pc L (Value.ref a :: st) := by
  obtain ⟨p, l, en, R, s, m, args, below, meth, c, D, q, ar, A⟩ := x
  subst hn
  exact fun H locs ls h hP hD hS => lv_astore_n C.1 C.2.1 hd hi h hb hl (fun ls h => k H locs ls h hP hD hS)
theorem u_iinc (C : CxG x cc own nL rm) {i : Nat} {z : Int} {a v : Int32} (j : Nat) (hd : decode cc pc = .ok (.iinc i z, 3)) (hj : L[j]? = some (i, .int a)) (hv : v = a + Int32.ofInt z) (hb : i < nL) (hl : (i, Value.int v) :: L.filter (fun q => !(q.1 == i) && !(q.1 + 1 == i && q.2.category == 2)) = L') (hn : pc + 3 = n) (k : VW x nL Q ws cs ss n L' st) : VW x nL Q ws cs ss pc L st := by
  obtain ⟨p, l, en, R, s, m, args, below, meth, c, D, q, ar, A⟩ := x
  subst hn
  exact fun H locs ls h hP hD hS => lv_iinc C.1 C.2.1 hd h hj hv.symm hb hl (fun ls h => k H locs ls h hP hD hS)
theorem u_if_eq (C : CxG x cc own nL rm) {a : Int32} {z : Int} {t : Nat} (hd : decode cc pc = .ok (.ifCond .eq z, 3)) (ht : (pc : Int) + z = (t : Int)) (hn : pc + 3 = n) (kt : a = 0 → VW x nL Q ws cs ss t L st) (kf : ¬ a = 0 → VW x nL Q ws cs ss n L st) : VW x nL Q ws cs ss pc L (.int a :: st) := by
  obtain ⟨p, l, en, R, s, m, args, below, meth, c, D, q, ar, A⟩ := x
  subst hn
  exact fun H locs ls h hP hD hS => lv_if_eq C.1 C.2.1 hd ht (fun z => kt z H locs ls h hP hD hS) (fun z => kf z H locs ls h hP hD hS)
theorem u_icmp_eq (C : CxG x cc own nL rm) {a b : Int32} {z : Int} {t : Nat} (hd : decode cc pc = .ok (.if_icmp .eq z, 3)) (ht : (pc : Int) + z = (t : Int)) (hn : pc + 3 = n) (kt : a = b → VW x nL Q ws cs ss t L st) (kf : ¬ a = b → VW x nL Q ws cs ss n L st) : VW x nL Q ws cs ss pc L (.int b :: .int a :: st) := by
  obtain ⟨p, l, en, R, s, m, args, below, meth, c, D, q, ar, A⟩ := x
  subst hn
  exact fun H locs ls h hP hD hS => lv_icmp_eq C.1 C.2.1 hd ht (fun z => kt z H locs ls h hP hD hS) (fun z => kf z H locs ls h hP hD hS)
theorem u_if_ne (C : CxG x cc own nL rm) {a : Int32} {z : Int} {t : Nat} (hd : decode cc pc = .ok (.ifCond .ne z, 3)) (ht : (pc : Int) + z = (t : Int)) (hn : pc + 3 = n) (kt : ¬ a = 0 → VW x nL Q ws cs ss t L st) (kf : a = 0 → VW x nL Q ws cs ss n L st) : VW x nL Q ws cs ss pc L (.int a :: st) := by
  obtain ⟨p, l, en, R, s, m, args, below, meth, c, D, q, ar, A⟩ := x
  subst hn
  exact fun H locs ls h hP hD hS => lv_if_ne C.1 C.2.1 hd ht (fun z => kt z H locs ls h hP hD hS) (fun z => kf z H locs ls h hP hD hS)
theorem u_icmp_ne (C : CxG x cc own nL rm) {a b : Int32} {z : Int} {t : Nat} (hd : decode cc pc = .ok (.if_icmp .ne z, 3)) (ht : (pc : Int) + z = (t : Int)) (hn : pc + 3 = n) (kt : ¬ a = b → VW x nL Q ws cs ss t L st) (kf : a = b → VW x nL Q ws cs ss n L st) : VW x nL Q ws cs ss pc L (.int b :: .int a :: st) := by
  obtain ⟨p, l, en, R, s, m, args, below, meth, c, D, q, ar, A⟩ := x
  subst hn
  exact fun H locs ls h hP hD hS => lv_icmp_ne C.1 C.2.1 hd ht (fun z => kt z H locs ls h hP hD hS) (fun z => kf z H locs ls h hP hD hS)
theorem u_if_gt (C : CxG x cc own nL rm) {a : Int32} {z : Int} {t : Nat} (hd : decode cc pc = .ok (.ifCond .gt z, 3)) (ht : (pc : Int) + z = (t : Int)) (hn : pc + 3 = n) (kt : 0 < a → VW x nL Q ws cs ss t L st) (kf : ¬ 0 < a → VW x nL Q ws cs ss n L st) : VW x nL Q ws cs ss pc L (.int a :: st) := by
  obtain ⟨p, l, en, R, s, m, args, below, meth, c, D, q, ar, A⟩ := x
  subst hn
  exact fun H locs ls h hP hD hS => lv_if_gt C.1 C.2.1 hd ht (fun z => kt z H locs ls h hP hD hS) (fun z => kf z H locs ls h hP hD hS)
theorem u_icmp_gt (C : CxG x cc own nL rm) {a b : Int32} {z : Int} {t : Nat} (hd : decode cc pc = .ok (.if_icmp .gt z, 3)) (ht : (pc : Int) + z = (t : Int)) (hn : pc + 3 = n) (kt : b < a → VW x nL Q ws cs ss t L st) (kf : ¬ b < a → VW x nL Q ws cs ss n L st) : VW x nL Q ws cs ss pc L (.int b :: .int a :: st) := by
  obtain ⟨p, l, en, R, s, m, args, below, meth, c, D, q, ar, A⟩ := x
  subst hn
  exact fun H locs ls h hP hD hS => lv_icmp_gt C.1 C.2.1 hd ht (fun z => kt z H locs ls h hP hD hS) (fun z => kf z H locs ls h hP hD hS)
theorem u_tabO (C : CxG x cc own nL rm) {a : Int32} {dflt lo hi : Int} {offs : Array Int} {len t : Nat} (hd : decode cc pc = .ok (.tableswitch dflt lo hi offs, len)) (ha : a.toInt < lo ∨ hi < a.toInt) (ht : (pc : Int) + dflt = (t : Int)) (k : VW x nL Q ws cs ss t L st) : VW x nL Q ws cs ss pc L (.int a :: st) := by
  obtain ⟨p, l, en, R, s, m, args, below, meth, c, D, q, ar, A⟩ := x
  exact fun H locs ls h hP hD hS => lv_tableOut C.1 C.2.1 hd ha ht (k H locs ls h hP hD hS)
theorem u_tabI (C : CxG x cc own nL rm) {a v : Int32} {dflt lo hi off : Int} {offs : Array Int} {len t : Nat} (hd : decode cc pc = .ok (.tableswitch dflt lo hi offs, len)) (e : a = v) (h1 : ¬ v.toInt < lo) (h2 : ¬ hi < v.toInt) (ho : offs[(v.toInt - lo).toNat]? = some off) (ht : (pc : Int) + off = (t : Int)) (k : VW x nL Q ws cs ss t L st) : VW x nL Q ws cs ss pc L (.int a :: st) := by
  obtain ⟨p, l, en, R, s, m, args, below, meth, c, D, q, ar, A⟩ := x
  subst e
  exact fun H locs ls h hP hD hS => lv_tableIn C.1 C.2.1 hd h1 h2 ho ht (k H locs ls h hP hD hS)
theorem u_bool (C : CxG x cc own nL rm) {w : Int32} {z1 z2 : Int} {a b : Nat} (d1 : decode cc pc = .ok (.ifCond .eq z1, 3)) (t1 : (pc : Int) + z1 = (b : Int)) (hn : pc + 3 = a) (d2 : decode cc a = .ok (.iconst 1, 1)) (d3 : decode cc (a + 1) = .ok (.goto z2, 3)) (t2 : ((a + 1 : Nat) : Int) + z2 = (n : Int)) (d4 : decode cc b = .ok (.iconst 0, 1)) (h4 : b + 1 = n) (k : VW x nL Q ws cs ss n L (.int (nz w) :: st)) : VW x nL Q ws cs ss pc L (.int w :: st) := by
  refine u_if_eq C d1 t1 hn (fun c => ?_) (fun c => ?_)
  · refine u_iconst (v := 0) C d4 (by decide) h4 ?_
    have e : nz w = 0 := by unfold nz; rw [if_pos c]
    rw [e] at k
    exact k
  · refine u_iconst (v := 1) C d2 (by decide) (n := a + 1) rfl ?_
    refine u_goto C d3 t2 ?_
    have e : nz w = 1 := by unfold nz; rw [if_neg c]
    rw [e] at k
    exact k
theorem u_lald (C : CxG x cc own nL rm) {k a : Nat} {f : Nat → Int64} (hg : ws[k]? = some (a, .inl ((xr x).2.2, 1, .inr (.inl f)))) (hd : decode cc pc = .ok (.laload, 1)) (hn : pc + 1 = n) (kk : VW x nL Q ws cs ss n L (.long (f 0) :: st)) : VW x nL Q ws cs ss pc L (.int 0 :: .ref a :: st) := by
  obtain ⟨p, l, en, R, s, m, args, below, meth, c, D, q, ar, A⟩ := x
  obtain ⟨hx, hb, hml, hown, hts, hK, hN, hA, hR⟩ := C
  subst hn
  exact fun H locs ls h hP hD hS => va_lald hx hb hK hP k 2 hg rfl (show vp_in 0 1 by unfold vp_in; decide) hd (kk H locs ls h hP hD hS)
theorem u_last (C : CxG x cc own nL rm) {k a : Nat} {f : Nat → Int64} {v : Int64} (hg : ws[k]? = some (a, .inl ((xr x).2.2, 1, .inr (.inl f)))) (hd : decode cc pc = .ok (.lastore, 1)) (hn : pc + 1 = n) (hset : ws.set k (a, .inl ((xr x).2.2, 1, .inr (.inl (vp_updL f 0 v)))) = ws') (kk : VW x nL Q ws' cs ss n L st) : VW x nL Q ws cs ss pc L (.long v :: .int 0 :: .ref a :: st) := by
  obtain ⟨p, l, en, R, s, m, args, below, meth, c, D, q, ar, A⟩ := x
  obtain ⟨hx, hb, hml, hown, hts, hK, hN, hA, hR⟩ := C
  subst hn; subst hset
  exact fun H locs ls h hP hD hS => va_last hx hb hK hP hD hS k 2 hg rfl (show vp_in 0 1 by unfold vp_in; decide) hd (fun H1 locs1 hP1 hD1 hS1 => kk H1 locs1 ls h hP1 hD1 hS1)
end GRules
/-! L_look: the law's try and catch -/
def rm_L_look : Room := { frames := 7, cells := 1, slots := 6, locals := 120 }
def PreK (D : va_G) (q : Nat → Nat) (ao : Nat) (ar : Ar) (S : St) (fo : Nat → Int64) (sz sa1 sa2 : Nat) (U : State) : Prop := PreW D ar (oRow ao ar fo ++ WX q ar S) sz U ∧ XS (va_A (oRow ao ar fo ++ WX q ar S) sz) sa1 sa2 U U.heap
theorem PreK.blind {av : List Value} {D : va_G} {q : Nat → Nat} {ao : Nat} {ar : Ar} {S : St} {fo : Nat → Int64} {sz sa1 sa2 : Nat} : FrameBlind (va_Pc av (PreK D q ao ar S fo sz sa1 sa2)) := by
  intro a U g mk h
  obtain ⟨h0, ⟨h1, hP, hK, hD, hN⟩, hX⟩ := h
  exact ⟨h0, ⟨h1, hP, va_K.moved (u := U) (U := U.calling g mk a) (Vm.Alike.refl U.vm) hK, hD, NW.same (u := U) (U := U.calling g mk a) rfl hN⟩, XS.same (s := U) (U := U.calling g mk a) hX rfl⟩
def okK (res : (Int32 × Int32) × St) (fo : Nat → Int64) (r : Int32) (u : St × (Nat → Int64)) : Prop := r = res.1.1 ∧ u.1 = res.2 ∧ u.2 = (if res.1.1 = 0 then vp_updL fo 0 res.1.2.toInt64 else fo)
theorem m_look_kind {a1 a2 : Int32} {S : St} {res : (Int32 × Int32) × St} (h : m_X9_look a1 a2 S = some res) : res.1.1 = 0 ∨ res.1.1 = 1 ∨ res.1.1 = 2 := by
  unfold m_X9_look at h
  obtain ⟨r, S1, e1, h⟩ := bI_e h
  by_cases c1 : r = 0
  · have h := ite_p c1 h; cases h; exact Or.inr (Or.inl rfl)
  · have h := ite_n c1 h
    by_cases c2 : a2 = 0
    · obtain ⟨-, h⟩ := ck_e (ite_p c2 h); cases h; exact Or.inl rfl
    · have h := ite_n c2 h
      by_cases c3 : a2 = 1
      · obtain ⟨-, h⟩ := ck_e (ite_p c3 h); cases h; exact Or.inl rfl
      · have h := ite_n c3 h
        by_cases c4 : a2 = 2
        · obtain ⟨-, h⟩ := ck_e (ite_p c4 h); cases h; exact Or.inl rfl
        · have h := ite_n c4 h
          by_cases c5 : a2 = 3
          · obtain ⟨-, h⟩ := ck_e (ite_p c5 h); cases h; exact Or.inl rfl
          · have h := ite_n c5 h; cases h; exact Or.inr (Or.inr rfl)
set_option maxRecDepth 20000 in
set_option maxHeartbeats 2000000 in
theorem c_L_look {l : Launch} (hst : l.stackTraces = false) {D : va_G} {q : Nat → Nat} {ar : Ar} {ao sa1 sa2 : Nat} {fo : Nat → Int64} (a1 a2 : Int32) (S : St) {res : (Int32 × Int32) × St} (h : m_X9_look a1 a2 S = some res) (sz : Nat) :
    vx_Met l yL_look (Cond.codeWith yL_look cL_look 5 (some .int) [(0, 10, 13, 13), (0, 10, 17, 15)] :: bigX) rm_L_look (va_Pc [.ref (q 0), .int a1, .int a2, .ref ao] (PreK D q ao ar S fo sz sa1 sa2)) (va_Qi (okK res fo) (fun u t => va_P D vwCl (oRow ao ar u.2 ++ WX q ar u.1) t.heap) (va_A (oRow ao ar fo ++ WX q ar S) sz)) (fun _ _ _ => False) 1 6 (va_A (oRow ao ar fo ++ WX q ar S) sz) := by
  refine vx_ofWH (cc := cL_look) (maxL := 5) (ret := some .int) (by decide +kernel) rfl ?_
  intro p e s m args below meth c s₁ B hml hv
  obtain ⟨rfl, ⟨hsz, hP, hK, hD, hN⟩, hX⟩ := hv
  subst hsz
  have hts := atoms_spec (ws := Cond.codeWith yL_look cL_look 5 (some .int) [(0, 10, 13, 13), (0, 10, 17, 15)] :: bigX) B.pre
  have hbx : ∀ w ∈ bigX, w.before _ s = true := fun w h => hts w (List.mem_cons_of_mem _ h)
  have htab := vx_table (x := yL_look) B (hts _ List.mem_cons_self)
  have hkind := m_look_kind h
  have hD1 : va_D (va_A (oRow ao ar fo ++ WX q ar S) s.heap.size) (oRow ao ar fo ++ WX q ar S) := hD.self
  generalize hAe : va_A (oRow ao ar fo ++ WX q ar S) s.heap.size = A at hX hD1 ⊢
  have hlk := B.notSynchronized
  have C : CxG (p, l, e, rm_L_look, s, m, #[.ref (q 0), .int a1, .int a2, .ref ao], below, meth, c, D, q, ar, A) cL_look RL 5 rm_L_look := ⟨B.exec, B.bytes, hml, findClass_of_methodNamed B.named, hbx, hK, hN, fun a h => by rw [← hAe]; exact Or.inr h, rfl⟩
  have iret : ∀ {T : St} {pc : Nat} {L : List (Nat × Value)} {a : Int32} {f2 : Nat → Int64}, okK res fo a (T, f2) → decode cL_look pc = .ok (.ireturn, 1) → VW (p, l, e, rm_L_look, s, m, #[.ref (q 0), .int a1, .int a2, .ref ao], below, meth, c, D, q, ar, A) 5 (vx_MQ below (va_Qi (okK res fo) (fun u t => va_P D vwCl (oRow ao ar u.2 ++ WX q ar u.1) t.heap) A) (fun _ _ _ => False) #[.ref (q 0), .int a1, .int a2, .ref ao] s 1 6 A) (oRow ao ar f2 ++ WX q ar T) 1 6 pc L [.int a] := by
    intro T pc L a f2 e1 hd
    obtain ⟨hx, hb, hml2, hown, hts2, hK2, hN2, hA, hR⟩ := C
    intro H locs ls hh hP2 hD2 hS
    refine vx_ret ?_
    exact W.iret (v := a) hx hb B.returns (fun t ht hW => ⟨⟨a, (T, f2), rfl, e1, by show va_P D vwCl (oRow ao ar f2 ++ WX q ar T) t.heap; rw [ht]; exact hP2⟩, hS.F ht⟩) hS.2.2 hd
  have hV : VW (p, l, e, rm_L_look, s, m, #[.ref (q 0), .int a1, .int a2, .ref ao], below, meth, c, D, q, ar, A) 5 (vx_MQ below (va_Qi (okK res fo) (fun u t => va_P D vwCl (oRow ao ar u.2 ++ WX q ar u.1) t.heap) A) (fun _ _ _ => False) #[.ref (q 0), .int a1, .int a2, .ref ao] s 1 6 A) (oRow ao ar fo ++ WX q ar S) 0 0 0 [(0, .ref (q 0)), (1, .int a1), (2, .int a2), (3, .ref ao)] [] := by
    refine u_aload_n C 3 dL_look_0 rfl rfl (n := 1) rfl ?_
    refine u_iconst (v := 0) C dL_look_1 (by decide) (n := 2) rfl ?_
    refine u_aload_n C 0 dL_look_2 rfl rfl (n := 3) rfl ?_
    refine u_iload_n C 1 dL_look_3 rfl rfl (n := 4) rfl ?_
    refine u_iload_n C 2 dL_look_4 rfl rfl (n := 5) rfl ?_
    have C0 := C
    obtain ⟨hx, hb, hml2, hown, hts2, hK2, hN2, hA, hR⟩ := C
    intro H locs ls hh hP2 hD2 hS
    have hPc := (P_app hP2).2
    have hDc := (D_app hD2).2.1
    have hFc := inA hDc hS hA
    have hFw := inA hD2 hS hA
    have hcode : Cond.code yX9_look cX9_look 3 (some .int) ∈ bigX := in_bigX _ w_33_12
    refine vx_calli (vx_runV (As := [.int a1, .int a2]) (rest := [.int 0, .ref ao]) ⟨hx, hb, hml2, hown, hts2⟩ (c_X9_look hst a1 a2 S h H.size) ⟨callB_of 2 hts2 (good_bigX hcode) rfl rfl rfl (hts2 _ (in_bigX _ w_1_2)) (hts2 _ (in_bigX _ w_33_9)) ⟨by decide +kernel, by decide +kernel, by decide +kernel⟩ ⟨by decide, by decide⟩, hts2 _ (in_bigX _ w_33_10), hts2 _ (in_bigX _ w_33_11)⟩ ⟨PreL.blind, va_recv hK2 hPc (ci := 9) (q0 := 0) rfl (oX9 q ar S), fun U hU hW => ⟨rfl, ⟨by rw [hU], by rw [hU]; exact hPc, va_K.moved hW.alike hK2, hDc.weaken (fun _ _ _ _ => trivial), hN2.warm hW⟩, hX.go hW (fun a h1 h2 => by rw [hU]; exact hS.2.1 a h1 h2) hFc⟩⟩ rfl rfl hh.1 rfl (lv_room (Nat.le_of_ble_eq_true rfl)) dL_look_5 ⟨by decide, by decide⟩) hS (fun a _ ha => hFc a ha) hFc (fun a _ ha => hFc a ha) (fun E ce q9 u t H1 locs1 ht hvm hpx hB hz hk hS1 hce hcv hcl => ?_) (fun r u t H1 locs1 ht hvm hpo hB hz hk hS1 => ?_)
    · obtain ⟨hE, hP1⟩ := hB
      rw [ht] at hP1
      obtain ⟨hP3, hD3⟩ := join_app hP2 hD2 hk hFc hP1 (va_D_adr (adrX q ar S u) hDc.self)
      rcases hE with ⟨rfl, e2⟩ | ⟨rfl, e2⟩
      · refine vx_catch hown [] (⟨0, 10, 13, 13⟩ : ExceptionTableEntry) [⟨0, 10, 17, 15⟩] (by rw [htab]; rfl) (fun z hz => nomatch hz) (by decide) (by decide) (hts2 _ (in_bigX _ w_33_7)) (va_Nw.use rfl hX.2.2.2.2.1) hce hcv hcl ?_
        refine (u_astore (L' := [(4, .ref q9), (0, .ref (q 0)), (1, .int a1), (2, .int a2), (3, .ref ao)]) C0 dL_look_13 (by decide) rfl (n := 15) rfl ?_ : VW (p, l, e, rm_L_look, s, m, #[.ref (q 0), .int a1, .int a2, .ref ao], below, meth, c, D, q, ar, A) 5 _ (oRow ao ar fo ++ WX q ar u) 1 6 13 [(0, .ref (q 0)), (1, .int a1), (2, .int a2), (3, .ref ao)] [.ref q9]) H1 locs1 ls hh hP3 hD3 hS1
        refine u_iconst (v := 1) C0 dL_look_15 (by decide) (n := 16) rfl ?_
        exact iret ⟨by rw [e2], by rw [e2], by rw [e2]; rfl⟩ dL_look_16
      · refine vx_catch hown [⟨0, 10, 13, 13⟩] (⟨0, 10, 17, 15⟩ : ExceptionTableEntry) [] (by rw [htab]; rfl) (fun z hz => by rw [List.mem_singleton.mp hz]; exact Or.inr ⟨by decide, IOB, hts2 _ (in_bigX _ w_33_7), hX.2.2.2.2.2.2.1⟩) (by decide) (by decide) (hts2 _ (in_bigX _ w_33_8)) (va_Nw.use rfl hX.2.2.2.2.2.1) hce hcv hcl ?_
        refine (u_astore (L' := [(4, .ref q9), (0, .ref (q 0)), (1, .int a1), (2, .int a2), (3, .ref ao)]) C0 dL_look_17 (by decide) rfl (n := 19) rfl ?_ : VW (p, l, e, rm_L_look, s, m, #[.ref (q 0), .int a1, .int a2, .ref ao], below, meth, c, D, q, ar, A) 5 _ (oRow ao ar fo ++ WX q ar u) 1 6 17 [(0, .ref (q 0)), (1, .int a1), (2, .int a2), (3, .ref ao)] [.ref q9]) H1 locs1 ls hh hP3 hD3 hS1
        refine u_iconst (v := 2) C0 dL_look_19 (by decide) (n := 20) rfl ?_
        exact iret ⟨by rw [e2], by rw [e2], by rw [e2]; rfl⟩ dL_look_20
    · rw [ht] at hB
      obtain ⟨hP3, hD3⟩ := join_app hP2 hD2 hk hFc hB (va_D_adr (adrX q ar S u) hDc.self)
      refine (u_i2l C0 dL_look_8 (n := 9) rfl ?_ : VW (p, l, e, rm_L_look, s, m, #[.ref (q 0), .int a1, .int a2, .ref ao], below, meth, c, D, q, ar, A) 5 _ (oRow ao ar fo ++ WX q ar u) 1 6 8 [(0, .ref (q 0)), (1, .int a1), (2, .int a2), (3, .ref ao)] [.int r, .int 0, .ref ao]) H1 locs1 ls hh hP3 hD3 hS1
      refine u_last (k := 0) (ws' := oRow ao ar (vp_updL fo 0 r.toInt64) ++ WX q ar u) C0 rfl dL_look_9 (n := 10) rfl rfl ?_
      refine u_goto C0 dL_look_10 (n := 21) (by decide) ?_
      refine u_iconst (v := 0) C0 dL_look_21 (by decide) (n := 22) rfl ?_
      exact iret ⟨by rw [hpo], by rw [hpo], by rw [hpo]; rfl⟩ dL_look_22
  rw [lg_entry_eq]
  exact hV s.heap [] _ (lv_entry [.ref (q 0), .int a1, .int a2, .ref ao] (Nat.le_of_ble_eq_true rfl)) hP hD1 va_S.rf
