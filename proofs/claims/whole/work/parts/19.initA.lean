def rm_X7_init : Room := { frames := 1, cells := 1, slots := 300, locals := 12 }
set_option maxRecDepth 100000 in
set_option maxHeartbeats 4000000 in
theorem c_X7_init {l : Launch} {D : va_G} {ar : Ar} (h0 : Nat) : MetC l D ar yX7_init cX7_init 1 rm_X7_init [.ref h0] [(h0, .inr (7, [.null, .int 0]))] (fun u => [(h0, .inr (7, [.ref (u 0), .int 0])), ((u 0), .inl (ar.1, 300, .inl (fun _ => 0)))]) 1 300 := by
  refine metC_of (by decide +kernel) rfl (Nat.le_of_ble_eq_true rfl) (fun x e1 e2 e3 C => ?_)
  subst e1; subst e2; subst e3
  show VW x 1 _ [(h0, .inr (7, [.null, .int 0]))] 0 0 0 [(0, .ref h0)] []
  refine w_aload_n C 0 dX7_init_0 rfl rfl (n := 1) rfl ?_
  refine w_obj C w_3_4 w_1_11 w_1_12 dX7_init_1 (by decide) (Nat.le_of_ble_eq_true rfl) (n := 4) rfl ?_
  refine w_aload_n C 0 dX7_init_4 rfl rfl (n := 5) rfl ?_
  refine w_sipush (v := 300) C dX7_init_5 (by decide) (n := 8) rfl ?_
  refine w_newI (N := 300) C w_3_5 dX7_init_8 (by decide) (by decide) (by decide) (cs' := 1) rfl (ss' := 300) rfl (by decide) (by decide) (n := 10) rfl (fun a1 => ?_)
  show VW x 1 _ [(h0, .inr (7, [.null, .int 0])), (a1, .inl ((xr x).1, 300, .inl (fun _ => 0)))] 1 300 10 _ _
  refine w_putF (k := 0) (i := 0) (ty := .array .int) (ws' := [(h0, .inr (7, [.ref a1, .int 0])), (a1, .inl ((xr x).1, 300, .inl (fun _ => 0)))]) C rfl rfl (by decide) (Nat.le_of_ble_eq_true rfl) inX7 tyX7 tyX7_ok nmX7 rfl rfl (by decide +kernel) rfl rfl w_3_6 dX7_init_10 (n := 13) rfl rfl ?_
  refine w_aload_n C 0 dX7_init_13 rfl rfl (n := 14) rfl ?_
  refine w_iconst (v := 0) C dX7_init_14 (by decide) (n := 15) rfl ?_
  refine w_put (k := 0) (i := 1) (ty := .int) (ws' := [(h0, .inr (7, [.ref a1, .int 0])), (a1, .inl ((xr x).1, 300, .inl (fun _ => 0)))]) C rfl rfl (by decide) (Nat.le_of_ble_eq_true rfl) inX7 tyX7 tyX7_ok nmX7 rfl (by decide +kernel) rfl rfl w_3_7 dX7_init_15 (n := 18) rfl rfl ?_
  exact w_ret C (fun k => match k with | 0 => a1 | _ => 0) rfl dX7_init_18
def rm_X3_init : Room := { frames := 1, cells := 2, slots := 16, locals := 12 }
set_option maxRecDepth 100000 in
set_option maxHeartbeats 4000000 in
theorem c_X3_init {l : Launch} {D : va_G} {ar : Ar} (h0 : Nat) (p1 : Nat) (bb : Nat) (zz : Int32) : MetC l D ar yX3_init cX3_init 2 rm_X3_init [.ref h0, .ref p1] [(h0, .inr (3, [.int 0, .int 0, .null, .int 0, .int 0, .int 0, .int 0, .int 0, .null, .null, .int 0])), (p1, .inr (7, [.ref bb, .int zz]))] (fun u => [(h0, .inr (3, [.int 0, .int (-1), .ref bb, .int 0, .int 0, .int 0, .int 0, .int 0, .ref (u 0), .ref (u 1), .int 0])), (p1, .inr (7, [.ref bb, .int zz])), ((u 0), .inl (ar.1, 8, .inl (fun _ => 0))), ((u 1), .inl (ar.1, 8, .inl (fun _ => 0)))]) 2 16 := by
  refine metC_of (by decide +kernel) rfl (Nat.le_of_ble_eq_true rfl) (fun x e1 e2 e3 C => ?_)
  subst e1; subst e2; subst e3
  show VW x 2 _ [(h0, .inr (3, [.int 0, .int 0, .null, .int 0, .int 0, .int 0, .int 0, .int 0, .null, .null, .int 0])), (p1, .inr (7, [.ref bb, .int zz]))] 0 0 0 [(0, .ref h0), (1, .ref p1)] []
  refine w_aload_n C 0 dX3_init_0 rfl rfl (n := 1) rfl ?_
  refine w_obj C w_3_11 w_1_11 w_1_12 dX3_init_1 (by decide) (Nat.le_of_ble_eq_true rfl) (n := 4) rfl ?_
  refine w_aload_n C 0 dX3_init_4 rfl rfl (n := 5) rfl ?_
  refine w_iconst (v := 0) C dX3_init_5 (by decide) (n := 6) rfl ?_
  refine w_put (k := 0) (i := 0) (ty := .int) (ws' := [(h0, .inr (3, [.int 0, .int 0, .null, .int 0, .int 0, .int 0, .int 0, .int 0, .null, .null, .int 0])), (p1, .inr (7, [.ref bb, .int zz]))]) C rfl rfl (by decide) (Nat.le_of_ble_eq_true rfl) inX3 tyX3 tyX3_ok nmX3 rfl (by decide +kernel) rfl rfl w_3_12 dX3_init_6 (n := 9) rfl rfl ?_
  refine w_aload_n C 0 dX3_init_9 rfl rfl (n := 10) rfl ?_
  refine w_iconst (v := (-1)) C dX3_init_10 (by decide) (n := 11) rfl ?_
  refine w_put (k := 0) (i := 1) (ty := .int) (ws' := [(h0, .inr (3, [.int 0, .int (-1), .null, .int 0, .int 0, .int 0, .int 0, .int 0, .null, .null, .int 0])), (p1, .inr (7, [.ref bb, .int zz]))]) C rfl rfl (by decide) (Nat.le_of_ble_eq_true rfl) inX3 tyX3 tyX3_ok nmX3 rfl (by decide +kernel) rfl rfl w_3_13 dX3_init_11 (n := 14) rfl rfl ?_
  refine w_aload_n C 0 dX3_init_14 rfl rfl (n := 15) rfl ?_
  refine w_iconst (v := 0) C dX3_init_15 (by decide) (n := 16) rfl ?_
  refine w_put (k := 0) (i := 3) (ty := .int) (ws' := [(h0, .inr (3, [.int 0, .int (-1), .null, .int 0, .int 0, .int 0, .int 0, .int 0, .null, .null, .int 0])), (p1, .inr (7, [.ref bb, .int zz]))]) C rfl rfl (by decide) (Nat.le_of_ble_eq_true rfl) inX3 tyX3 tyX3_ok nmX3 rfl (by decide +kernel) rfl rfl w_3_14 dX3_init_16 (n := 19) rfl rfl ?_
  refine w_aload_n C 0 dX3_init_19 rfl rfl (n := 20) rfl ?_
  refine w_iconst (v := 0) C dX3_init_20 (by decide) (n := 21) rfl ?_
  refine w_put (k := 0) (i := 4) (ty := .int) (ws' := [(h0, .inr (3, [.int 0, .int (-1), .null, .int 0, .int 0, .int 0, .int 0, .int 0, .null, .null, .int 0])), (p1, .inr (7, [.ref bb, .int zz]))]) C rfl rfl (by decide) (Nat.le_of_ble_eq_true rfl) inX3 tyX3 tyX3_ok nmX3 rfl (by decide +kernel) rfl rfl w_3_15 dX3_init_21 (n := 24) rfl rfl ?_
  refine w_aload_n C 0 dX3_init_24 rfl rfl (n := 25) rfl ?_
  refine w_iconst (v := 0) C dX3_init_25 (by decide) (n := 26) rfl ?_
  refine w_put (k := 0) (i := 5) (ty := .int) (ws' := [(h0, .inr (3, [.int 0, .int (-1), .null, .int 0, .int 0, .int 0, .int 0, .int 0, .null, .null, .int 0])), (p1, .inr (7, [.ref bb, .int zz]))]) C rfl rfl (by decide) (Nat.le_of_ble_eq_true rfl) inX3 tyX3 tyX3_ok nmX3 rfl (by decide +kernel) rfl rfl w_3_16 dX3_init_26 (n := 29) rfl rfl ?_
  refine w_aload_n C 0 dX3_init_29 rfl rfl (n := 30) rfl ?_
  refine w_iconst (v := 0) C dX3_init_30 (by decide) (n := 31) rfl ?_
  refine w_put (k := 0) (i := 6) (ty := .int) (ws' := [(h0, .inr (3, [.int 0, .int (-1), .null, .int 0, .int 0, .int 0, .int 0, .int 0, .null, .null, .int 0])), (p1, .inr (7, [.ref bb, .int zz]))]) C rfl rfl (by decide) (Nat.le_of_ble_eq_true rfl) inX3 tyX3 tyX3_ok nmX3 rfl (by decide +kernel) rfl rfl w_3_17 dX3_init_31 (n := 34) rfl rfl ?_
  refine w_aload_n C 0 dX3_init_34 rfl rfl (n := 35) rfl ?_
  refine w_iconst (v := 0) C dX3_init_35 (by decide) (n := 36) rfl ?_
  refine w_put (k := 0) (i := 7) (ty := .int) (ws' := [(h0, .inr (3, [.int 0, .int (-1), .null, .int 0, .int 0, .int 0, .int 0, .int 0, .null, .null, .int 0])), (p1, .inr (7, [.ref bb, .int zz]))]) C rfl rfl (by decide) (Nat.le_of_ble_eq_true rfl) inX3 tyX3 tyX3_ok nmX3 rfl (by decide +kernel) rfl rfl w_3_18 dX3_init_36 (n := 39) rfl rfl ?_
  refine w_aload_n C 0 dX3_init_39 rfl rfl (n := 40) rfl ?_
  refine w_bipush (v := 8) C dX3_init_40 (by decide) (n := 42) rfl ?_
  refine w_newI (N := 8) C w_3_5 dX3_init_42 (by decide) (by decide) (by decide) (cs' := 1) rfl (ss' := 8) rfl (by decide) (by decide) (n := 44) rfl (fun a1 => ?_)
  show VW x 2 _ [(h0, .inr (3, [.int 0, .int (-1), .null, .int 0, .int 0, .int 0, .int 0, .int 0, .null, .null, .int 0])), (p1, .inr (7, [.ref bb, .int zz])), (a1, .inl ((xr x).1, 8, .inl (fun _ => 0)))] 1 8 44 _ _
  refine w_putF (k := 0) (i := 8) (ty := .array .int) (ws' := [(h0, .inr (3, [.int 0, .int (-1), .null, .int 0, .int 0, .int 0, .int 0, .int 0, .ref a1, .null, .int 0])), (p1, .inr (7, [.ref bb, .int zz])), (a1, .inl ((xr x).1, 8, .inl (fun _ => 0)))]) C rfl rfl (by decide) (Nat.le_of_ble_eq_true rfl) inX3 tyX3 tyX3_ok nmX3 rfl rfl (by decide +kernel) rfl rfl w_3_19 dX3_init_44 (n := 47) rfl rfl ?_
  refine w_aload_n C 0 dX3_init_47 rfl rfl (n := 48) rfl ?_
  refine w_bipush (v := 8) C dX3_init_48 (by decide) (n := 50) rfl ?_
  refine w_newI (N := 8) C w_3_5 dX3_init_50 (by decide) (by decide) (by decide) (cs' := 2) rfl (ss' := 16) rfl (by decide) (by decide) (n := 52) rfl (fun a2 => ?_)
  show VW x 2 _ [(h0, .inr (3, [.int 0, .int (-1), .null, .int 0, .int 0, .int 0, .int 0, .int 0, .ref a1, .null, .int 0])), (p1, .inr (7, [.ref bb, .int zz])), (a1, .inl ((xr x).1, 8, .inl (fun _ => 0))), (a2, .inl ((xr x).1, 8, .inl (fun _ => 0)))] 2 16 52 _ _
  refine w_putF (k := 0) (i := 9) (ty := .array .int) (ws' := [(h0, .inr (3, [.int 0, .int (-1), .null, .int 0, .int 0, .int 0, .int 0, .int 0, .ref a1, .ref a2, .int 0])), (p1, .inr (7, [.ref bb, .int zz])), (a1, .inl ((xr x).1, 8, .inl (fun _ => 0))), (a2, .inl ((xr x).1, 8, .inl (fun _ => 0)))]) C rfl rfl (by decide) (Nat.le_of_ble_eq_true rfl) inX3 tyX3 tyX3_ok nmX3 rfl rfl (by decide +kernel) rfl rfl w_3_20 dX3_init_52 (n := 55) rfl rfl ?_
  refine w_aload_n C 0 dX3_init_55 rfl rfl (n := 56) rfl ?_
  refine w_iconst (v := 0) C dX3_init_56 (by decide) (n := 57) rfl ?_
  refine w_put (k := 0) (i := 10) (ty := .int) (ws' := [(h0, .inr (3, [.int 0, .int (-1), .null, .int 0, .int 0, .int 0, .int 0, .int 0, .ref a1, .ref a2, .int 0])), (p1, .inr (7, [.ref bb, .int zz])), (a1, .inl ((xr x).1, 8, .inl (fun _ => 0))), (a2, .inl ((xr x).1, 8, .inl (fun _ => 0)))]) C rfl rfl (by decide) (Nat.le_of_ble_eq_true rfl) inX3 tyX3 tyX3_ok nmX3 rfl (by decide +kernel) rfl rfl w_3_21 dX3_init_57 (n := 60) rfl rfl ?_
  refine w_aload_n C 0 dX3_init_60 rfl rfl (n := 61) rfl ?_
  refine w_aload_n C 1 dX3_init_61 rfl rfl (n := 62) rfl ?_
  refine w_get (k := 1) (i := 0) C rfl rfl (by decide) rfl inX7 w_3_22 dX3_init_62 (n := 65) rfl ?_
  refine w_putF (k := 0) (i := 2) (ty := .array .int) (ws' := [(h0, .inr (3, [.int 0, .int (-1), .ref bb, .int 0, .int 0, .int 0, .int 0, .int 0, .ref a1, .ref a2, .int 0])), (p1, .inr (7, [.ref bb, .int zz])), (a1, .inl ((xr x).1, 8, .inl (fun _ => 0))), (a2, .inl ((xr x).1, 8, .inl (fun _ => 0)))]) C rfl rfl (by decide) (Nat.le_of_ble_eq_true rfl) inX3 tyX3 tyX3_ok nmX3 rfl rfl (by decide +kernel) rfl rfl w_3_23 dX3_init_65 (n := 68) rfl rfl ?_
  exact w_ret C (fun k => match k with | 0 => a1 | 1 => a2 | _ => 0) rfl dX3_init_68
def rm_X0_init : Room := { frames := 1, cells := 9, slots := 196, locals := 12 }
set_option maxRecDepth 100000 in
set_option maxHeartbeats 4000000 in
theorem c_X0_init {l : Launch} {D : va_G} {ar : Ar} (h0 : Nat) : MetC l D ar yX0_init cX0_init 1 rm_X0_init [.ref h0] [(h0, .inr (0, [.int 0, .int 0, .int 0, .int 0, .int 0, .int 0, .int 0, .null, .null, .null, .null, .null, .null, .null, .null, .null]))] (fun u => [(h0, .inr (0, [.int 0, .int 0, .int 0, .int 0, .int 0, .int 0, .int 1, .ref (u 0), .ref (u 1), .ref (u 2), .ref (u 3), .ref (u 4), .ref (u 5), .ref (u 6), .ref (u 7), .ref (u 8)])), ((u 0), .inl (ar.1, 12, .inl (fun _ => 0))), ((u 1), .inl (ar.1, 8, .inl (fun _ => 0))), ((u 2), .inl (ar.1, 8, .inl (fun _ => 0))), ((u 3), .inl (ar.1, 24, .inl (fun _ => 0))), ((u 4), .inl (ar.1, 24, .inl (fun _ => 0))), ((u 5), .inl (ar.1, 24, .inl (fun _ => 0))), ((u 6), .inl (ar.1, 24, .inl (fun _ => 0))), ((u 7), .inl (ar.1, 48, .inl (fun _ => 0))), ((u 8), .inl (ar.1, 24, .inl (fun _ => 0)))]) 9 196 := by
  refine metC_of (by decide +kernel) rfl (Nat.le_of_ble_eq_true rfl) (fun x e1 e2 e3 C => ?_)
  subst e1; subst e2; subst e3
  show VW x 1 _ [(h0, .inr (0, [.int 0, .int 0, .int 0, .int 0, .int 0, .int 0, .int 0, .null, .null, .null, .null, .null, .null, .null, .null, .null]))] 0 0 0 [(0, .ref h0)] []
  refine w_aload_n C 0 dX0_init_0 rfl rfl (n := 1) rfl ?_
  refine w_obj C w_4_2 w_1_11 w_1_12 dX0_init_1 (by decide) (Nat.le_of_ble_eq_true rfl) (n := 4) rfl ?_
  refine w_aload_n C 0 dX0_init_4 rfl rfl (n := 5) rfl ?_
  refine w_iconst (v := 0) C dX0_init_5 (by decide) (n := 6) rfl ?_
  refine w_put (k := 0) (i := 0) (ty := .int) (ws' := [(h0, .inr (0, [.int 0, .int 0, .int 0, .int 0, .int 0, .int 0, .int 0, .null, .null, .null, .null, .null, .null, .null, .null, .null]))]) C rfl rfl (by decide) (Nat.le_of_ble_eq_true rfl) inX0 tyX0 tyX0_ok nmX0 rfl (by decide +kernel) rfl rfl w_4_3 dX0_init_6 (n := 9) rfl rfl ?_
  refine w_aload_n C 0 dX0_init_9 rfl rfl (n := 10) rfl ?_
  refine w_iconst (v := 0) C dX0_init_10 (by decide) (n := 11) rfl ?_
  refine w_put (k := 0) (i := 1) (ty := .int) (ws' := [(h0, .inr (0, [.int 0, .int 0, .int 0, .int 0, .int 0, .int 0, .int 0, .null, .null, .null, .null, .null, .null, .null, .null, .null]))]) C rfl rfl (by decide) (Nat.le_of_ble_eq_true rfl) inX0 tyX0 tyX0_ok nmX0 rfl (by decide +kernel) rfl rfl w_4_4 dX0_init_11 (n := 14) rfl rfl ?_
  refine w_aload_n C 0 dX0_init_14 rfl rfl (n := 15) rfl ?_
  refine w_iconst (v := 0) C dX0_init_15 (by decide) (n := 16) rfl ?_
  refine w_put (k := 0) (i := 2) (ty := .int) (ws' := [(h0, .inr (0, [.int 0, .int 0, .int 0, .int 0, .int 0, .int 0, .int 0, .null, .null, .null, .null, .null, .null, .null, .null, .null]))]) C rfl rfl (by decide) (Nat.le_of_ble_eq_true rfl) inX0 tyX0 tyX0_ok nmX0 rfl (by decide +kernel) rfl rfl w_4_5 dX0_init_16 (n := 19) rfl rfl ?_
  refine w_aload_n C 0 dX0_init_19 rfl rfl (n := 20) rfl ?_
  refine w_iconst (v := 0) C dX0_init_20 (by decide) (n := 21) rfl ?_
  refine w_put (k := 0) (i := 3) (ty := .int) (ws' := [(h0, .inr (0, [.int 0, .int 0, .int 0, .int 0, .int 0, .int 0, .int 0, .null, .null, .null, .null, .null, .null, .null, .null, .null]))]) C rfl rfl (by decide) (Nat.le_of_ble_eq_true rfl) inX0 tyX0 tyX0_ok nmX0 rfl (by decide +kernel) rfl rfl w_4_6 dX0_init_21 (n := 24) rfl rfl ?_
  refine w_aload_n C 0 dX0_init_24 rfl rfl (n := 25) rfl ?_
  refine w_iconst (v := 0) C dX0_init_25 (by decide) (n := 26) rfl ?_
  refine w_put (k := 0) (i := 4) (ty := .int) (ws' := [(h0, .inr (0, [.int 0, .int 0, .int 0, .int 0, .int 0, .int 0, .int 0, .null, .null, .null, .null, .null, .null, .null, .null, .null]))]) C rfl rfl (by decide) (Nat.le_of_ble_eq_true rfl) inX0 tyX0 tyX0_ok nmX0 rfl (by decide +kernel) rfl rfl w_4_7 dX0_init_26 (n := 29) rfl rfl ?_
  refine w_aload_n C 0 dX0_init_29 rfl rfl (n := 30) rfl ?_
  refine w_iconst (v := 0) C dX0_init_30 (by decide) (n := 31) rfl ?_
  refine w_put (k := 0) (i := 5) (ty := .int) (ws' := [(h0, .inr (0, [.int 0, .int 0, .int 0, .int 0, .int 0, .int 0, .int 0, .null, .null, .null, .null, .null, .null, .null, .null, .null]))]) C rfl rfl (by decide) (Nat.le_of_ble_eq_true rfl) inX0 tyX0 tyX0_ok nmX0 rfl (by decide +kernel) rfl rfl w_4_8 dX0_init_31 (n := 34) rfl rfl ?_
  refine w_aload_n C 0 dX0_init_34 rfl rfl (n := 35) rfl ?_
  refine w_iconst (v := 1) C dX0_init_35 (by decide) (n := 36) rfl ?_
  refine w_put (k := 0) (i := 6) (ty := .int) (ws' := [(h0, .inr (0, [.int 0, .int 0, .int 0, .int 0, .int 0, .int 0, .int 1, .null, .null, .null, .null, .null, .null, .null, .null, .null]))]) C rfl rfl (by decide) (Nat.le_of_ble_eq_true rfl) inX0 tyX0 tyX0_ok nmX0 rfl (by decide +kernel) rfl rfl w_4_9 dX0_init_36 (n := 39) rfl rfl ?_
  refine w_aload_n C 0 dX0_init_39 rfl rfl (n := 40) rfl ?_
  refine w_bipush (v := 12) C dX0_init_40 (by decide) (n := 42) rfl ?_
  refine w_newI (N := 12) C w_3_5 dX0_init_42 (by decide) (by decide) (by decide) (cs' := 1) rfl (ss' := 12) rfl (by decide) (by decide) (n := 44) rfl (fun a1 => ?_)
  show VW x 1 _ [(h0, .inr (0, [.int 0, .int 0, .int 0, .int 0, .int 0, .int 0, .int 1, .null, .null, .null, .null, .null, .null, .null, .null, .null])), (a1, .inl ((xr x).1, 12, .inl (fun _ => 0)))] 1 12 44 _ _
  refine w_putF (k := 0) (i := 7) (ty := .array .int) (ws' := [(h0, .inr (0, [.int 0, .int 0, .int 0, .int 0, .int 0, .int 0, .int 1, .ref a1, .null, .null, .null, .null, .null, .null, .null, .null])), (a1, .inl ((xr x).1, 12, .inl (fun _ => 0)))]) C rfl rfl (by decide) (Nat.le_of_ble_eq_true rfl) inX0 tyX0 tyX0_ok nmX0 rfl rfl (by decide +kernel) rfl rfl w_4_10 dX0_init_44 (n := 47) rfl rfl ?_
  refine w_aload_n C 0 dX0_init_47 rfl rfl (n := 48) rfl ?_
  refine w_bipush (v := 8) C dX0_init_48 (by decide) (n := 50) rfl ?_
  refine w_newI (N := 8) C w_3_5 dX0_init_50 (by decide) (by decide) (by decide) (cs' := 2) rfl (ss' := 20) rfl (by decide) (by decide) (n := 52) rfl (fun a2 => ?_)
  show VW x 1 _ [(h0, .inr (0, [.int 0, .int 0, .int 0, .int 0, .int 0, .int 0, .int 1, .ref a1, .null, .null, .null, .null, .null, .null, .null, .null])), (a1, .inl ((xr x).1, 12, .inl (fun _ => 0))), (a2, .inl ((xr x).1, 8, .inl (fun _ => 0)))] 2 20 52 _ _
  refine w_putF (k := 0) (i := 8) (ty := .array .int) (ws' := [(h0, .inr (0, [.int 0, .int 0, .int 0, .int 0, .int 0, .int 0, .int 1, .ref a1, .ref a2, .null, .null, .null, .null, .null, .null, .null])), (a1, .inl ((xr x).1, 12, .inl (fun _ => 0))), (a2, .inl ((xr x).1, 8, .inl (fun _ => 0)))]) C rfl rfl (by decide) (Nat.le_of_ble_eq_true rfl) inX0 tyX0 tyX0_ok nmX0 rfl rfl (by decide +kernel) rfl rfl w_4_11 dX0_init_52 (n := 55) rfl rfl ?_
  refine w_aload_n C 0 dX0_init_55 rfl rfl (n := 56) rfl ?_
  refine w_bipush (v := 8) C dX0_init_56 (by decide) (n := 58) rfl ?_
  refine w_newI (N := 8) C w_3_5 dX0_init_58 (by decide) (by decide) (by decide) (cs' := 3) rfl (ss' := 28) rfl (by decide) (by decide) (n := 60) rfl (fun a3 => ?_)
  show VW x 1 _ [(h0, .inr (0, [.int 0, .int 0, .int 0, .int 0, .int 0, .int 0, .int 1, .ref a1, .ref a2, .null, .null, .null, .null, .null, .null, .null])), (a1, .inl ((xr x).1, 12, .inl (fun _ => 0))), (a2, .inl ((xr x).1, 8, .inl (fun _ => 0))), (a3, .inl ((xr x).1, 8, .inl (fun _ => 0)))] 3 28 60 _ _
  refine w_putF (k := 0) (i := 9) (ty := .array .int) (ws' := [(h0, .inr (0, [.int 0, .int 0, .int 0, .int 0, .int 0, .int 0, .int 1, .ref a1, .ref a2, .ref a3, .null, .null, .null, .null, .null, .null])), (a1, .inl ((xr x).1, 12, .inl (fun _ => 0))), (a2, .inl ((xr x).1, 8, .inl (fun _ => 0))), (a3, .inl ((xr x).1, 8, .inl (fun _ => 0)))]) C rfl rfl (by decide) (Nat.le_of_ble_eq_true rfl) inX0 tyX0 tyX0_ok nmX0 rfl rfl (by decide +kernel) rfl rfl w_4_12 dX0_init_60 (n := 63) rfl rfl ?_
  refine w_aload_n C 0 dX0_init_63 rfl rfl (n := 64) rfl ?_
  refine w_bipush (v := 24) C dX0_init_64 (by decide) (n := 66) rfl ?_
  refine w_newI (N := 24) C w_3_5 dX0_init_66 (by decide) (by decide) (by decide) (cs' := 4) rfl (ss' := 52) rfl (by decide) (by decide) (n := 68) rfl (fun a4 => ?_)
  show VW x 1 _ [(h0, .inr (0, [.int 0, .int 0, .int 0, .int 0, .int 0, .int 0, .int 1, .ref a1, .ref a2, .ref a3, .null, .null, .null, .null, .null, .null])), (a1, .inl ((xr x).1, 12, .inl (fun _ => 0))), (a2, .inl ((xr x).1, 8, .inl (fun _ => 0))), (a3, .inl ((xr x).1, 8, .inl (fun _ => 0))), (a4, .inl ((xr x).1, 24, .inl (fun _ => 0)))] 4 52 68 _ _
  refine w_putF (k := 0) (i := 10) (ty := .array .int) (ws' := [(h0, .inr (0, [.int 0, .int 0, .int 0, .int 0, .int 0, .int 0, .int 1, .ref a1, .ref a2, .ref a3, .ref a4, .null, .null, .null, .null, .null])), (a1, .inl ((xr x).1, 12, .inl (fun _ => 0))), (a2, .inl ((xr x).1, 8, .inl (fun _ => 0))), (a3, .inl ((xr x).1, 8, .inl (fun _ => 0))), (a4, .inl ((xr x).1, 24, .inl (fun _ => 0)))]) C rfl rfl (by decide) (Nat.le_of_ble_eq_true rfl) inX0 tyX0 tyX0_ok nmX0 rfl rfl (by decide +kernel) rfl rfl w_4_13 dX0_init_68 (n := 71) rfl rfl ?_
  refine w_aload_n C 0 dX0_init_71 rfl rfl (n := 72) rfl ?_
  refine w_bipush (v := 24) C dX0_init_72 (by decide) (n := 74) rfl ?_
  refine w_newI (N := 24) C w_3_5 dX0_init_74 (by decide) (by decide) (by decide) (cs' := 5) rfl (ss' := 76) rfl (by decide) (by decide) (n := 76) rfl (fun a5 => ?_)
  show VW x 1 _ [(h0, .inr (0, [.int 0, .int 0, .int 0, .int 0, .int 0, .int 0, .int 1, .ref a1, .ref a2, .ref a3, .ref a4, .null, .null, .null, .null, .null])), (a1, .inl ((xr x).1, 12, .inl (fun _ => 0))), (a2, .inl ((xr x).1, 8, .inl (fun _ => 0))), (a3, .inl ((xr x).1, 8, .inl (fun _ => 0))), (a4, .inl ((xr x).1, 24, .inl (fun _ => 0))), (a5, .inl ((xr x).1, 24, .inl (fun _ => 0)))] 5 76 76 _ _
  refine w_putF (k := 0) (i := 11) (ty := .array .int) (ws' := [(h0, .inr (0, [.int 0, .int 0, .int 0, .int 0, .int 0, .int 0, .int 1, .ref a1, .ref a2, .ref a3, .ref a4, .ref a5, .null, .null, .null, .null])), (a1, .inl ((xr x).1, 12, .inl (fun _ => 0))), (a2, .inl ((xr x).1, 8, .inl (fun _ => 0))), (a3, .inl ((xr x).1, 8, .inl (fun _ => 0))), (a4, .inl ((xr x).1, 24, .inl (fun _ => 0))), (a5, .inl ((xr x).1, 24, .inl (fun _ => 0)))]) C rfl rfl (by decide) (Nat.le_of_ble_eq_true rfl) inX0 tyX0 tyX0_ok nmX0 rfl rfl (by decide +kernel) rfl rfl w_4_14 dX0_init_76 (n := 79) rfl rfl ?_
  refine w_aload_n C 0 dX0_init_79 rfl rfl (n := 80) rfl ?_
  refine w_bipush (v := 24) C dX0_init_80 (by decide) (n := 82) rfl ?_
  refine w_newI (N := 24) C w_3_5 dX0_init_82 (by decide) (by decide) (by decide) (cs' := 6) rfl (ss' := 100) rfl (by decide) (by decide) (n := 84) rfl (fun a6 => ?_)
  show VW x 1 _ [(h0, .inr (0, [.int 0, .int 0, .int 0, .int 0, .int 0, .int 0, .int 1, .ref a1, .ref a2, .ref a3, .ref a4, .ref a5, .null, .null, .null, .null])), (a1, .inl ((xr x).1, 12, .inl (fun _ => 0))), (a2, .inl ((xr x).1, 8, .inl (fun _ => 0))), (a3, .inl ((xr x).1, 8, .inl (fun _ => 0))), (a4, .inl ((xr x).1, 24, .inl (fun _ => 0))), (a5, .inl ((xr x).1, 24, .inl (fun _ => 0))), (a6, .inl ((xr x).1, 24, .inl (fun _ => 0)))] 6 100 84 _ _
  refine w_putF (k := 0) (i := 12) (ty := .array .int) (ws' := [(h0, .inr (0, [.int 0, .int 0, .int 0, .int 0, .int 0, .int 0, .int 1, .ref a1, .ref a2, .ref a3, .ref a4, .ref a5, .ref a6, .null, .null, .null])), (a1, .inl ((xr x).1, 12, .inl (fun _ => 0))), (a2, .inl ((xr x).1, 8, .inl (fun _ => 0))), (a3, .inl ((xr x).1, 8, .inl (fun _ => 0))), (a4, .inl ((xr x).1, 24, .inl (fun _ => 0))), (a5, .inl ((xr x).1, 24, .inl (fun _ => 0))), (a6, .inl ((xr x).1, 24, .inl (fun _ => 0)))]) C rfl rfl (by decide) (Nat.le_of_ble_eq_true rfl) inX0 tyX0 tyX0_ok nmX0 rfl rfl (by decide +kernel) rfl rfl w_4_15 dX0_init_84 (n := 87) rfl rfl ?_
  refine w_aload_n C 0 dX0_init_87 rfl rfl (n := 88) rfl ?_
  refine w_bipush (v := 24) C dX0_init_88 (by decide) (n := 90) rfl ?_
  refine w_newI (N := 24) C w_3_5 dX0_init_90 (by decide) (by decide) (by decide) (cs' := 7) rfl (ss' := 124) rfl (by decide) (by decide) (n := 92) rfl (fun a7 => ?_)
  show VW x 1 _ [(h0, .inr (0, [.int 0, .int 0, .int 0, .int 0, .int 0, .int 0, .int 1, .ref a1, .ref a2, .ref a3, .ref a4, .ref a5, .ref a6, .null, .null, .null])), (a1, .inl ((xr x).1, 12, .inl (fun _ => 0))), (a2, .inl ((xr x).1, 8, .inl (fun _ => 0))), (a3, .inl ((xr x).1, 8, .inl (fun _ => 0))), (a4, .inl ((xr x).1, 24, .inl (fun _ => 0))), (a5, .inl ((xr x).1, 24, .inl (fun _ => 0))), (a6, .inl ((xr x).1, 24, .inl (fun _ => 0))), (a7, .inl ((xr x).1, 24, .inl (fun _ => 0)))] 7 124 92 _ _
  refine w_putF (k := 0) (i := 13) (ty := .array .int) (ws' := [(h0, .inr (0, [.int 0, .int 0, .int 0, .int 0, .int 0, .int 0, .int 1, .ref a1, .ref a2, .ref a3, .ref a4, .ref a5, .ref a6, .ref a7, .null, .null])), (a1, .inl ((xr x).1, 12, .inl (fun _ => 0))), (a2, .inl ((xr x).1, 8, .inl (fun _ => 0))), (a3, .inl ((xr x).1, 8, .inl (fun _ => 0))), (a4, .inl ((xr x).1, 24, .inl (fun _ => 0))), (a5, .inl ((xr x).1, 24, .inl (fun _ => 0))), (a6, .inl ((xr x).1, 24, .inl (fun _ => 0))), (a7, .inl ((xr x).1, 24, .inl (fun _ => 0)))]) C rfl rfl (by decide) (Nat.le_of_ble_eq_true rfl) inX0 tyX0 tyX0_ok nmX0 rfl rfl (by decide +kernel) rfl rfl w_4_16 dX0_init_92 (n := 95) rfl rfl ?_
  refine w_aload_n C 0 dX0_init_95 rfl rfl (n := 96) rfl ?_
  refine w_bipush (v := 48) C dX0_init_96 (by decide) (n := 98) rfl ?_
  refine w_newI (N := 48) C w_3_5 dX0_init_98 (by decide) (by decide) (by decide) (cs' := 8) rfl (ss' := 172) rfl (by decide) (by decide) (n := 100) rfl (fun a8 => ?_)
  show VW x 1 _ [(h0, .inr (0, [.int 0, .int 0, .int 0, .int 0, .int 0, .int 0, .int 1, .ref a1, .ref a2, .ref a3, .ref a4, .ref a5, .ref a6, .ref a7, .null, .null])), (a1, .inl ((xr x).1, 12, .inl (fun _ => 0))), (a2, .inl ((xr x).1, 8, .inl (fun _ => 0))), (a3, .inl ((xr x).1, 8, .inl (fun _ => 0))), (a4, .inl ((xr x).1, 24, .inl (fun _ => 0))), (a5, .inl ((xr x).1, 24, .inl (fun _ => 0))), (a6, .inl ((xr x).1, 24, .inl (fun _ => 0))), (a7, .inl ((xr x).1, 24, .inl (fun _ => 0))), (a8, .inl ((xr x).1, 48, .inl (fun _ => 0)))] 8 172 100 _ _
  refine w_putF (k := 0) (i := 14) (ty := .array .int) (ws' := [(h0, .inr (0, [.int 0, .int 0, .int 0, .int 0, .int 0, .int 0, .int 1, .ref a1, .ref a2, .ref a3, .ref a4, .ref a5, .ref a6, .ref a7, .ref a8, .null])), (a1, .inl ((xr x).1, 12, .inl (fun _ => 0))), (a2, .inl ((xr x).1, 8, .inl (fun _ => 0))), (a3, .inl ((xr x).1, 8, .inl (fun _ => 0))), (a4, .inl ((xr x).1, 24, .inl (fun _ => 0))), (a5, .inl ((xr x).1, 24, .inl (fun _ => 0))), (a6, .inl ((xr x).1, 24, .inl (fun _ => 0))), (a7, .inl ((xr x).1, 24, .inl (fun _ => 0))), (a8, .inl ((xr x).1, 48, .inl (fun _ => 0)))]) C rfl rfl (by decide) (Nat.le_of_ble_eq_true rfl) inX0 tyX0 tyX0_ok nmX0 rfl rfl (by decide +kernel) rfl rfl w_4_17 dX0_init_100 (n := 103) rfl rfl ?_
  refine w_aload_n C 0 dX0_init_103 rfl rfl (n := 104) rfl ?_
  refine w_bipush (v := 24) C dX0_init_104 (by decide) (n := 106) rfl ?_
  refine w_newI (N := 24) C w_3_5 dX0_init_106 (by decide) (by decide) (by decide) (cs' := 9) rfl (ss' := 196) rfl (by decide) (by decide) (n := 108) rfl (fun a9 => ?_)
  show VW x 1 _ [(h0, .inr (0, [.int 0, .int 0, .int 0, .int 0, .int 0, .int 0, .int 1, .ref a1, .ref a2, .ref a3, .ref a4, .ref a5, .ref a6, .ref a7, .ref a8, .null])), (a1, .inl ((xr x).1, 12, .inl (fun _ => 0))), (a2, .inl ((xr x).1, 8, .inl (fun _ => 0))), (a3, .inl ((xr x).1, 8, .inl (fun _ => 0))), (a4, .inl ((xr x).1, 24, .inl (fun _ => 0))), (a5, .inl ((xr x).1, 24, .inl (fun _ => 0))), (a6, .inl ((xr x).1, 24, .inl (fun _ => 0))), (a7, .inl ((xr x).1, 24, .inl (fun _ => 0))), (a8, .inl ((xr x).1, 48, .inl (fun _ => 0))), (a9, .inl ((xr x).1, 24, .inl (fun _ => 0)))] 9 196 108 _ _
  refine w_putF (k := 0) (i := 15) (ty := .array .int) (ws' := [(h0, .inr (0, [.int 0, .int 0, .int 0, .int 0, .int 0, .int 0, .int 1, .ref a1, .ref a2, .ref a3, .ref a4, .ref a5, .ref a6, .ref a7, .ref a8, .ref a9])), (a1, .inl ((xr x).1, 12, .inl (fun _ => 0))), (a2, .inl ((xr x).1, 8, .inl (fun _ => 0))), (a3, .inl ((xr x).1, 8, .inl (fun _ => 0))), (a4, .inl ((xr x).1, 24, .inl (fun _ => 0))), (a5, .inl ((xr x).1, 24, .inl (fun _ => 0))), (a6, .inl ((xr x).1, 24, .inl (fun _ => 0))), (a7, .inl ((xr x).1, 24, .inl (fun _ => 0))), (a8, .inl ((xr x).1, 48, .inl (fun _ => 0))), (a9, .inl ((xr x).1, 24, .inl (fun _ => 0)))]) C rfl rfl (by decide) (Nat.le_of_ble_eq_true rfl) inX0 tyX0 tyX0_ok nmX0 rfl rfl (by decide +kernel) rfl rfl w_4_18 dX0_init_108 (n := 111) rfl rfl ?_
  exact w_ret C (fun k => match k with | 0 => a1 | 1 => a2 | 2 => a3 | 3 => a4 | 4 => a5 | 5 => a6 | 6 => a7 | 7 => a8 | 8 => a9 | _ => 0) rfl dX0_init_111
def rm_X5_init : Room := { frames := 1, cells := 3, slots := 24, locals := 12 }
set_option maxRecDepth 100000 in
set_option maxHeartbeats 4000000 in
theorem c_X5_init {l : Launch} {D : va_G} {ar : Ar} (h0 : Nat) : MetC l D ar yX5_init cX5_init 1 rm_X5_init [.ref h0] [(h0, .inr (5, [.null, .null, .null, .int 0, .int 0, .int 0, .int 0]))] (fun u => [(h0, .inr (5, [.ref (u 0), .ref (u 1), .ref (u 2), .int 0, .int 0, .int 0, .int 0])), ((u 0), .inl (ar.1, 8, .inl (fun _ => 0))), ((u 1), .inl (ar.1, 8, .inl (fun _ => 0))), ((u 2), .inl (ar.1, 8, .inl (fun _ => 0)))]) 3 24 := by
  refine metC_of (by decide +kernel) rfl (Nat.le_of_ble_eq_true rfl) (fun x e1 e2 e3 C => ?_)
  subst e1; subst e2; subst e3
  show VW x 1 _ [(h0, .inr (5, [.null, .null, .null, .int 0, .int 0, .int 0, .int 0]))] 0 0 0 [(0, .ref h0)] []
  refine w_aload_n C 0 dX5_init_0 rfl rfl (n := 1) rfl ?_
  refine w_obj C w_4_21 w_1_11 w_1_12 dX5_init_1 (by decide) (Nat.le_of_ble_eq_true rfl) (n := 4) rfl ?_
  refine w_aload_n C 0 dX5_init_4 rfl rfl (n := 5) rfl ?_
  refine w_bipush (v := 8) C dX5_init_5 (by decide) (n := 7) rfl ?_
  refine w_newI (N := 8) C w_3_5 dX5_init_7 (by decide) (by decide) (by decide) (cs' := 1) rfl (ss' := 8) rfl (by decide) (by decide) (n := 9) rfl (fun a1 => ?_)
  show VW x 1 _ [(h0, .inr (5, [.null, .null, .null, .int 0, .int 0, .int 0, .int 0])), (a1, .inl ((xr x).1, 8, .inl (fun _ => 0)))] 1 8 9 _ _
  refine w_putF (k := 0) (i := 0) (ty := .array .int) (ws' := [(h0, .inr (5, [.ref a1, .null, .null, .int 0, .int 0, .int 0, .int 0])), (a1, .inl ((xr x).1, 8, .inl (fun _ => 0)))]) C rfl rfl (by decide) (Nat.le_of_ble_eq_true rfl) inX5 tyX5 tyX5_ok nmX5 rfl rfl (by decide +kernel) rfl rfl w_4_22 dX5_init_9 (n := 12) rfl rfl ?_
  refine w_aload_n C 0 dX5_init_12 rfl rfl (n := 13) rfl ?_
  refine w_bipush (v := 8) C dX5_init_13 (by decide) (n := 15) rfl ?_
  refine w_newI (N := 8) C w_3_5 dX5_init_15 (by decide) (by decide) (by decide) (cs' := 2) rfl (ss' := 16) rfl (by decide) (by decide) (n := 17) rfl (fun a2 => ?_)
  show VW x 1 _ [(h0, .inr (5, [.ref a1, .null, .null, .int 0, .int 0, .int 0, .int 0])), (a1, .inl ((xr x).1, 8, .inl (fun _ => 0))), (a2, .inl ((xr x).1, 8, .inl (fun _ => 0)))] 2 16 17 _ _
  refine w_putF (k := 0) (i := 1) (ty := .array .int) (ws' := [(h0, .inr (5, [.ref a1, .ref a2, .null, .int 0, .int 0, .int 0, .int 0])), (a1, .inl ((xr x).1, 8, .inl (fun _ => 0))), (a2, .inl ((xr x).1, 8, .inl (fun _ => 0)))]) C rfl rfl (by decide) (Nat.le_of_ble_eq_true rfl) inX5 tyX5 tyX5_ok nmX5 rfl rfl (by decide +kernel) rfl rfl w_4_23 dX5_init_17 (n := 20) rfl rfl ?_
  refine w_aload_n C 0 dX5_init_20 rfl rfl (n := 21) rfl ?_
  refine w_bipush (v := 8) C dX5_init_21 (by decide) (n := 23) rfl ?_
  refine w_newI (N := 8) C w_3_5 dX5_init_23 (by decide) (by decide) (by decide) (cs' := 3) rfl (ss' := 24) rfl (by decide) (by decide) (n := 25) rfl (fun a3 => ?_)
  show VW x 1 _ [(h0, .inr (5, [.ref a1, .ref a2, .null, .int 0, .int 0, .int 0, .int 0])), (a1, .inl ((xr x).1, 8, .inl (fun _ => 0))), (a2, .inl ((xr x).1, 8, .inl (fun _ => 0))), (a3, .inl ((xr x).1, 8, .inl (fun _ => 0)))] 3 24 25 _ _
  refine w_putF (k := 0) (i := 2) (ty := .array .int) (ws' := [(h0, .inr (5, [.ref a1, .ref a2, .ref a3, .int 0, .int 0, .int 0, .int 0])), (a1, .inl ((xr x).1, 8, .inl (fun _ => 0))), (a2, .inl ((xr x).1, 8, .inl (fun _ => 0))), (a3, .inl ((xr x).1, 8, .inl (fun _ => 0)))]) C rfl rfl (by decide) (Nat.le_of_ble_eq_true rfl) inX5 tyX5 tyX5_ok nmX5 rfl rfl (by decide +kernel) rfl rfl w_5_0 dX5_init_25 (n := 28) rfl rfl ?_
  refine w_aload_n C 0 dX5_init_28 rfl rfl (n := 29) rfl ?_
  refine w_iconst (v := 0) C dX5_init_29 (by decide) (n := 30) rfl ?_
  refine w_put (k := 0) (i := 3) (ty := .int) (ws' := [(h0, .inr (5, [.ref a1, .ref a2, .ref a3, .int 0, .int 0, .int 0, .int 0])), (a1, .inl ((xr x).1, 8, .inl (fun _ => 0))), (a2, .inl ((xr x).1, 8, .inl (fun _ => 0))), (a3, .inl ((xr x).1, 8, .inl (fun _ => 0)))]) C rfl rfl (by decide) (Nat.le_of_ble_eq_true rfl) inX5 tyX5 tyX5_ok nmX5 rfl (by decide +kernel) rfl rfl w_5_1 dX5_init_30 (n := 33) rfl rfl ?_
  refine w_aload_n C 0 dX5_init_33 rfl rfl (n := 34) rfl ?_
  refine w_iconst (v := 0) C dX5_init_34 (by decide) (n := 35) rfl ?_
  refine w_put (k := 0) (i := 4) (ty := .int) (ws' := [(h0, .inr (5, [.ref a1, .ref a2, .ref a3, .int 0, .int 0, .int 0, .int 0])), (a1, .inl ((xr x).1, 8, .inl (fun _ => 0))), (a2, .inl ((xr x).1, 8, .inl (fun _ => 0))), (a3, .inl ((xr x).1, 8, .inl (fun _ => 0)))]) C rfl rfl (by decide) (Nat.le_of_ble_eq_true rfl) inX5 tyX5 tyX5_ok nmX5 rfl (by decide +kernel) rfl rfl w_5_2 dX5_init_35 (n := 38) rfl rfl ?_
  refine w_aload_n C 0 dX5_init_38 rfl rfl (n := 39) rfl ?_
  refine w_iconst (v := 0) C dX5_init_39 (by decide) (n := 40) rfl ?_
  refine w_put (k := 0) (i := 5) (ty := .int) (ws' := [(h0, .inr (5, [.ref a1, .ref a2, .ref a3, .int 0, .int 0, .int 0, .int 0])), (a1, .inl ((xr x).1, 8, .inl (fun _ => 0))), (a2, .inl ((xr x).1, 8, .inl (fun _ => 0))), (a3, .inl ((xr x).1, 8, .inl (fun _ => 0)))]) C rfl rfl (by decide) (Nat.le_of_ble_eq_true rfl) inX5 tyX5 tyX5_ok nmX5 rfl (by decide +kernel) rfl rfl w_5_3 dX5_init_40 (n := 43) rfl rfl ?_
  refine w_aload_n C 0 dX5_init_43 rfl rfl (n := 44) rfl ?_
  refine w_iconst (v := 0) C dX5_init_44 (by decide) (n := 45) rfl ?_
  refine w_put (k := 0) (i := 6) (ty := .int) (ws' := [(h0, .inr (5, [.ref a1, .ref a2, .ref a3, .int 0, .int 0, .int 0, .int 0])), (a1, .inl ((xr x).1, 8, .inl (fun _ => 0))), (a2, .inl ((xr x).1, 8, .inl (fun _ => 0))), (a3, .inl ((xr x).1, 8, .inl (fun _ => 0)))]) C rfl rfl (by decide) (Nat.le_of_ble_eq_true rfl) inX5 tyX5 tyX5_ok nmX5 rfl (by decide +kernel) rfl rfl w_5_4 dX5_init_45 (n := 48) rfl rfl ?_
  exact w_ret C (fun k => match k with | 0 => a1 | 1 => a2 | 2 => a3 | _ => 0) rfl dX5_init_48
def rm_X8_init : Room := { frames := 1, cells := 2, slots := 1509, locals := 12 }
set_option maxRecDepth 100000 in
set_option maxHeartbeats 4000000 in
theorem c_X8_init {l : Launch} {D : va_G} {ar : Ar} (h0 : Nat) (p1 : Nat) (p2 : Nat) : MetC l D ar yX8_init cX8_init 3 rm_X8_init [.ref h0, .ref p1, .ref p2] [(h0, .inr (8, [.null, .int 0, .null, .null, .null]))] (fun u => [(h0, .inr (8, [.ref (u 0), .int 0, .ref p1, .ref (u 1), .ref p2])), ((u 0), .inl (ar.1, 1501, .inl (fun _ => 0))), ((u 1), .inl (ar.1, 8, .inl (fun _ => 0)))]) 2 1509 := by
  refine metC_of (by decide +kernel) rfl (Nat.le_of_ble_eq_true rfl) (fun x e1 e2 e3 C => ?_)
  subst e1; subst e2; subst e3
  show VW x 3 _ [(h0, .inr (8, [.null, .int 0, .null, .null, .null]))] 0 0 0 [(0, .ref h0), (1, .ref p1), (2, .ref p2)] []
  refine w_aload_n C 0 dX8_init_0 rfl rfl (n := 1) rfl ?_
  refine w_obj C w_5_8 w_1_11 w_1_12 dX8_init_1 (by decide) (Nat.le_of_ble_eq_true rfl) (n := 4) rfl ?_
  refine w_aload_n C 0 dX8_init_4 rfl rfl (n := 5) rfl ?_
  refine w_sipush (v := 1501) C dX8_init_5 (by decide) (n := 8) rfl ?_
  refine w_newI (N := 1501) C w_3_5 dX8_init_8 (by decide) (by decide) (by decide) (cs' := 1) rfl (ss' := 1501) rfl (by decide) (by decide) (n := 10) rfl (fun a1 => ?_)
  show VW x 3 _ [(h0, .inr (8, [.null, .int 0, .null, .null, .null])), (a1, .inl ((xr x).1, 1501, .inl (fun _ => 0)))] 1 1501 10 _ _
  refine w_putF (k := 0) (i := 0) (ty := .array .int) (ws' := [(h0, .inr (8, [.ref a1, .int 0, .null, .null, .null])), (a1, .inl ((xr x).1, 1501, .inl (fun _ => 0)))]) C rfl rfl (by decide) (Nat.le_of_ble_eq_true rfl) inX8 tyX8 tyX8_ok nmX8 rfl rfl (by decide +kernel) rfl rfl w_5_9 dX8_init_10 (n := 13) rfl rfl ?_
  refine w_aload_n C 0 dX8_init_13 rfl rfl (n := 14) rfl ?_
  refine w_iconst (v := 0) C dX8_init_14 (by decide) (n := 15) rfl ?_
  refine w_put (k := 0) (i := 1) (ty := .int) (ws' := [(h0, .inr (8, [.ref a1, .int 0, .null, .null, .null])), (a1, .inl ((xr x).1, 1501, .inl (fun _ => 0)))]) C rfl rfl (by decide) (Nat.le_of_ble_eq_true rfl) inX8 tyX8 tyX8_ok nmX8 rfl (by decide +kernel) rfl rfl w_5_10 dX8_init_15 (n := 18) rfl rfl ?_
  refine w_aload_n C 0 dX8_init_18 rfl rfl (n := 19) rfl ?_
  refine w_bipush (v := 8) C dX8_init_19 (by decide) (n := 21) rfl ?_
  refine w_newI (N := 8) C w_3_5 dX8_init_21 (by decide) (by decide) (by decide) (cs' := 2) rfl (ss' := 1509) rfl (by decide) (by decide) (n := 23) rfl (fun a2 => ?_)
  show VW x 3 _ [(h0, .inr (8, [.ref a1, .int 0, .null, .null, .null])), (a1, .inl ((xr x).1, 1501, .inl (fun _ => 0))), (a2, .inl ((xr x).1, 8, .inl (fun _ => 0)))] 2 1509 23 _ _
  refine w_putF (k := 0) (i := 3) (ty := .array .int) (ws' := [(h0, .inr (8, [.ref a1, .int 0, .null, .ref a2, .null])), (a1, .inl ((xr x).1, 1501, .inl (fun _ => 0))), (a2, .inl ((xr x).1, 8, .inl (fun _ => 0)))]) C rfl rfl (by decide) (Nat.le_of_ble_eq_true rfl) inX8 tyX8 tyX8_ok nmX8 rfl rfl (by decide +kernel) rfl rfl w_5_11 dX8_init_23 (n := 26) rfl rfl ?_
  refine w_aload_n C 0 dX8_init_26 rfl rfl (n := 27) rfl ?_
  refine w_aload_n C 1 dX8_init_27 rfl rfl (n := 28) rfl ?_
  refine w_putF (k := 0) (i := 2) (ty := .object "LabyrinthGarden$Garden") (ws' := [(h0, .inr (8, [.ref a1, .int 0, .ref p1, .ref a2, .null])), (a1, .inl ((xr x).1, 1501, .inl (fun _ => 0))), (a2, .inl ((xr x).1, 8, .inl (fun _ => 0)))]) C rfl rfl (by decide) (Nat.le_of_ble_eq_true rfl) inX8 tyX8 tyX8_ok nmX8 rfl rfl (by decide +kernel) rfl rfl w_5_12 dX8_init_28 (n := 31) rfl rfl ?_
  refine w_aload_n C 0 dX8_init_31 rfl rfl (n := 32) rfl ?_
  refine w_aload_n C 2 dX8_init_32 rfl rfl (n := 33) rfl ?_
  refine w_put (k := 0) (i := 4) (ty := .object "LabyrinthGarden$Rules") (ws' := [(h0, .inr (8, [.ref a1, .int 0, .ref p1, .ref a2, .ref p2])), (a1, .inl ((xr x).1, 1501, .inl (fun _ => 0))), (a2, .inl ((xr x).1, 8, .inl (fun _ => 0)))]) C rfl rfl (by decide) (Nat.le_of_ble_eq_true rfl) inX8 tyX8 tyX8_ok nmX8 rfl (by decide +kernel) rfl rfl w_5_13 dX8_init_33 (n := 36) rfl rfl ?_
  exact w_ret C (fun k => match k with | 0 => a1 | 1 => a2 | _ => 0) rfl dX8_init_36
def rm_X4_init : Room := { frames := 1, cells := 1, slots := 6, locals := 12 }
set_option maxRecDepth 100000 in
set_option maxHeartbeats 4000000 in
theorem c_X4_init {l : Launch} {D : va_G} {ar : Ar} (h0 : Nat) : MetC l D ar yX4_init cX4_init 1 rm_X4_init [.ref h0] [(h0, .inr (4, [.null]))] (fun u => [(h0, .inr (4, [.ref (u 0)])), ((u 0), .inl (ar.1, 6, .inl (upd (upd (upd (upd (upd (upd (fun _ => 0) 0 (-1)) 1 (-1)) 2 (-1)) 3 (-1)) 4 (-1)) 5 (-1))))]) 1 6 := by
  refine metC_of (by decide +kernel) rfl (Nat.le_of_ble_eq_true rfl) (fun x e1 e2 e3 C => ?_)
  subst e1; subst e2; subst e3
  show VW x 1 _ [(h0, .inr (4, [.null]))] 0 0 0 [(0, .ref h0)] []
  refine w_aload_n C 0 dX4_init_0 rfl rfl (n := 1) rfl ?_
  refine w_obj C w_5_16 w_1_11 w_1_12 dX4_init_1 (by decide) (Nat.le_of_ble_eq_true rfl) (n := 4) rfl ?_
  refine w_aload_n C 0 dX4_init_4 rfl rfl (n := 5) rfl ?_
  refine w_bipush (v := 6) C dX4_init_5 (by decide) (n := 7) rfl ?_
  refine w_newI (N := 6) C w_3_5 dX4_init_7 (by decide) (by decide) (by decide) (cs' := 1) rfl (ss' := 6) rfl (by decide) (by decide) (n := 9) rfl (fun a1 => ?_)
  show VW x 1 _ [(h0, .inr (4, [.null])), (a1, .inl ((xr x).1, 6, .inl (fun _ => 0)))] 1 6 9 _ _
  refine w_dup C dX4_init_9 rfl (n := 10) rfl ?_
  refine w_iconst (v := 0) C dX4_init_10 (by decide) (n := 11) rfl ?_
  refine w_iconst (v := (-1)) C dX4_init_11 (by decide) (n := 12) rfl ?_
  refine w_iast (k := 1) (j := 0) (ws' := [(h0, .inr (4, [.null])), (a1, .inl ((xr x).1, 6, .inl (upd (fun _ => 0) 0 (-1))))]) C rfl (by decide) (show vp_in 0 6 by unfold vp_in; decide) dX4_init_12 (n := 13) rfl rfl ?_
  refine w_dup C dX4_init_13 rfl (n := 14) rfl ?_
  refine w_iconst (v := 1) C dX4_init_14 (by decide) (n := 15) rfl ?_
  refine w_iconst (v := (-1)) C dX4_init_15 (by decide) (n := 16) rfl ?_
  refine w_iast (k := 1) (j := 1) (ws' := [(h0, .inr (4, [.null])), (a1, .inl ((xr x).1, 6, .inl (upd (upd (fun _ => 0) 0 (-1)) 1 (-1))))]) C rfl (by decide) (show vp_in 1 6 by unfold vp_in; decide) dX4_init_16 (n := 17) rfl rfl ?_
  refine w_dup C dX4_init_17 rfl (n := 18) rfl ?_
  refine w_iconst (v := 2) C dX4_init_18 (by decide) (n := 19) rfl ?_
  refine w_iconst (v := (-1)) C dX4_init_19 (by decide) (n := 20) rfl ?_
  refine w_iast (k := 1) (j := 2) (ws' := [(h0, .inr (4, [.null])), (a1, .inl ((xr x).1, 6, .inl (upd (upd (upd (fun _ => 0) 0 (-1)) 1 (-1)) 2 (-1))))]) C rfl (by decide) (show vp_in 2 6 by unfold vp_in; decide) dX4_init_20 (n := 21) rfl rfl ?_
  refine w_dup C dX4_init_21 rfl (n := 22) rfl ?_
  refine w_iconst (v := 3) C dX4_init_22 (by decide) (n := 23) rfl ?_
  refine w_iconst (v := (-1)) C dX4_init_23 (by decide) (n := 24) rfl ?_
  refine w_iast (k := 1) (j := 3) (ws' := [(h0, .inr (4, [.null])), (a1, .inl ((xr x).1, 6, .inl (upd (upd (upd (upd (fun _ => 0) 0 (-1)) 1 (-1)) 2 (-1)) 3 (-1))))]) C rfl (by decide) (show vp_in 3 6 by unfold vp_in; decide) dX4_init_24 (n := 25) rfl rfl ?_
  refine w_dup C dX4_init_25 rfl (n := 26) rfl ?_
  refine w_iconst (v := 4) C dX4_init_26 (by decide) (n := 27) rfl ?_
  refine w_iconst (v := (-1)) C dX4_init_27 (by decide) (n := 28) rfl ?_
  refine w_iast (k := 1) (j := 4) (ws' := [(h0, .inr (4, [.null])), (a1, .inl ((xr x).1, 6, .inl (upd (upd (upd (upd (upd (fun _ => 0) 0 (-1)) 1 (-1)) 2 (-1)) 3 (-1)) 4 (-1))))]) C rfl (by decide) (show vp_in 4 6 by unfold vp_in; decide) dX4_init_28 (n := 29) rfl rfl ?_
  refine w_dup C dX4_init_29 rfl (n := 30) rfl ?_
  refine w_iconst (v := 5) C dX4_init_30 (by decide) (n := 31) rfl ?_
  refine w_iconst (v := (-1)) C dX4_init_31 (by decide) (n := 32) rfl ?_
  refine w_iast (k := 1) (j := 5) (ws' := [(h0, .inr (4, [.null])), (a1, .inl ((xr x).1, 6, .inl (upd (upd (upd (upd (upd (upd (fun _ => 0) 0 (-1)) 1 (-1)) 2 (-1)) 3 (-1)) 4 (-1)) 5 (-1))))]) C rfl (by decide) (show vp_in 5 6 by unfold vp_in; decide) dX4_init_32 (n := 33) rfl rfl ?_
  refine w_putF (k := 0) (i := 0) (ty := .array .int) (ws' := [(h0, .inr (4, [.ref a1])), (a1, .inl ((xr x).1, 6, .inl (upd (upd (upd (upd (upd (upd (fun _ => 0) 0 (-1)) 1 (-1)) 2 (-1)) 3 (-1)) 4 (-1)) 5 (-1))))]) C rfl rfl (by decide) (Nat.le_of_ble_eq_true rfl) inX4 tyX4 tyX4_ok nmX4 rfl rfl (by decide +kernel) rfl rfl w_5_17 dX4_init_33 (n := 36) rfl rfl ?_
  exact w_ret C (fun k => match k with | 0 => a1 | _ => 0) rfl dX4_init_36
def rm_X1_init : Room := { frames := 1, cells := 1, slots := 2, locals := 12 }
set_option maxRecDepth 100000 in
set_option maxHeartbeats 4000000 in
theorem c_X1_init {l : Launch} {D : va_G} {ar : Ar} (h0 : Nat) (p1 : Nat) (p2 : Nat) : MetC l D ar yX1_init cX1_init 3 rm_X1_init [.ref h0, .ref p1, .ref p2] [(h0, .inr (1, [.null, .int 0, .null, .null, .int 0]))] (fun u => [(h0, .inr (1, [.ref (u 0), .int 0, .ref p1, .ref p2, .int 0])), ((u 0), .inl (ar.1, 2, .inl (fun _ => 0)))]) 1 2 := by
  refine metC_of (by decide +kernel) rfl (Nat.le_of_ble_eq_true rfl) (fun x e1 e2 e3 C => ?_)
  subst e1; subst e2; subst e3
  show VW x 3 _ [(h0, .inr (1, [.null, .int 0, .null, .null, .int 0]))] 0 0 0 [(0, .ref h0), (1, .ref p1), (2, .ref p2)] []
  refine w_aload_n C 0 dX1_init_0 rfl rfl (n := 1) rfl ?_
  refine w_obj C w_5_21 w_1_11 w_1_12 dX1_init_1 (by decide) (Nat.le_of_ble_eq_true rfl) (n := 4) rfl ?_
  refine w_aload_n C 0 dX1_init_4 rfl rfl (n := 5) rfl ?_
  refine w_iconst (v := 2) C dX1_init_5 (by decide) (n := 6) rfl ?_
  refine w_newI (N := 2) C w_3_5 dX1_init_6 (by decide) (by decide) (by decide) (cs' := 1) rfl (ss' := 2) rfl (by decide) (by decide) (n := 8) rfl (fun a1 => ?_)
  show VW x 3 _ [(h0, .inr (1, [.null, .int 0, .null, .null, .int 0])), (a1, .inl ((xr x).1, 2, .inl (fun _ => 0)))] 1 2 8 _ _
  refine w_putF (k := 0) (i := 0) (ty := .array .int) (ws' := [(h0, .inr (1, [.ref a1, .int 0, .null, .null, .int 0])), (a1, .inl ((xr x).1, 2, .inl (fun _ => 0)))]) C rfl rfl (by decide) (Nat.le_of_ble_eq_true rfl) inX1 tyX1 tyX1_ok nmX1 rfl rfl (by decide +kernel) rfl rfl w_5_22 dX1_init_8 (n := 11) rfl rfl ?_
  refine w_aload_n C 0 dX1_init_11 rfl rfl (n := 12) rfl ?_
  refine w_iconst (v := 0) C dX1_init_12 (by decide) (n := 13) rfl ?_
  refine w_put (k := 0) (i := 1) (ty := .int) (ws' := [(h0, .inr (1, [.ref a1, .int 0, .null, .null, .int 0])), (a1, .inl ((xr x).1, 2, .inl (fun _ => 0)))]) C rfl rfl (by decide) (Nat.le_of_ble_eq_true rfl) inX1 tyX1 tyX1_ok nmX1 rfl (by decide +kernel) rfl rfl w_5_23 dX1_init_13 (n := 16) rfl rfl ?_
  refine w_aload_n C 0 dX1_init_16 rfl rfl (n := 17) rfl ?_
  refine w_iconst (v := 0) C dX1_init_17 (by decide) (n := 18) rfl ?_
  refine w_put (k := 0) (i := 4) (ty := .int) (ws' := [(h0, .inr (1, [.ref a1, .int 0, .null, .null, .int 0])), (a1, .inl ((xr x).1, 2, .inl (fun _ => 0)))]) C rfl rfl (by decide) (Nat.le_of_ble_eq_true rfl) inX1 tyX1 tyX1_ok nmX1 rfl (by decide +kernel) rfl rfl w_6_0 dX1_init_18 (n := 21) rfl rfl ?_
  refine w_aload_n C 0 dX1_init_21 rfl rfl (n := 22) rfl ?_
  refine w_aload_n C 1 dX1_init_22 rfl rfl (n := 23) rfl ?_
  refine w_putF (k := 0) (i := 2) (ty := .object "LabyrinthGarden$Garden") (ws' := [(h0, .inr (1, [.ref a1, .int 0, .ref p1, .null, .int 0])), (a1, .inl ((xr x).1, 2, .inl (fun _ => 0)))]) C rfl rfl (by decide) (Nat.le_of_ble_eq_true rfl) inX1 tyX1 tyX1_ok nmX1 rfl rfl (by decide +kernel) rfl rfl w_6_1 dX1_init_23 (n := 26) rfl rfl ?_
  refine w_aload_n C 0 dX1_init_26 rfl rfl (n := 27) rfl ?_
  refine w_aload_n C 2 dX1_init_27 rfl rfl (n := 28) rfl ?_
  refine w_putF (k := 0) (i := 3) (ty := .object "LabyrinthGarden$Walker") (ws' := [(h0, .inr (1, [.ref a1, .int 0, .ref p1, .ref p2, .int 0])), (a1, .inl ((xr x).1, 2, .inl (fun _ => 0)))]) C rfl rfl (by decide) (Nat.le_of_ble_eq_true rfl) inX1 tyX1 tyX1_ok nmX1 rfl rfl (by decide +kernel) rfl rfl w_6_2 dX1_init_28 (n := 31) rfl rfl ?_
  exact w_ret C (fun k => match k with | 0 => a1 | _ => 0) rfl dX1_init_31
def rm_X6_init : Room := { frames := 1, cells := 0, slots := 0, locals := 12 }
set_option maxRecDepth 100000 in
set_option maxHeartbeats 4000000 in
theorem c_X6_init {l : Launch} {D : va_G} {ar : Ar} (h0 : Nat) (p1 : Nat) : MetC l D ar yX6_init cX6_init 2 rm_X6_init [.ref h0, .ref p1] [(h0, .inr (6, [.int 0, .int 0, .null]))] (fun u => [(h0, .inr (6, [.int 0, .int (-1), .ref p1]))]) 0 0 := by
  refine metC_of (by decide +kernel) rfl (Nat.le_of_ble_eq_true rfl) (fun x e1 e2 e3 C => ?_)
  subst e1; subst e2; subst e3
  show VW x 2 _ [(h0, .inr (6, [.int 0, .int 0, .null]))] 0 0 0 [(0, .ref h0), (1, .ref p1)] []
  refine w_aload_n C 0 dX6_init_0 rfl rfl (n := 1) rfl ?_
  refine w_obj C w_6_6 w_1_11 w_1_12 dX6_init_1 (by decide) (Nat.le_of_ble_eq_true rfl) (n := 4) rfl ?_
  refine w_aload_n C 0 dX6_init_4 rfl rfl (n := 5) rfl ?_
  refine w_iconst (v := 0) C dX6_init_5 (by decide) (n := 6) rfl ?_
  refine w_put (k := 0) (i := 0) (ty := .int) (ws' := [(h0, .inr (6, [.int 0, .int 0, .null]))]) C rfl rfl (by decide) (Nat.le_of_ble_eq_true rfl) inX6 tyX6 tyX6_ok nmX6 rfl (by decide +kernel) rfl rfl w_6_7 dX6_init_6 (n := 9) rfl rfl ?_
  refine w_aload_n C 0 dX6_init_9 rfl rfl (n := 10) rfl ?_
  refine w_iconst (v := (-1)) C dX6_init_10 (by decide) (n := 11) rfl ?_
  refine w_put (k := 0) (i := 1) (ty := .int) (ws' := [(h0, .inr (6, [.int 0, .int (-1), .null]))]) C rfl rfl (by decide) (Nat.le_of_ble_eq_true rfl) inX6 tyX6 tyX6_ok nmX6 rfl (by decide +kernel) rfl rfl w_6_8 dX6_init_11 (n := 14) rfl rfl ?_
  refine w_aload_n C 0 dX6_init_14 rfl rfl (n := 15) rfl ?_
  refine w_aload_n C 1 dX6_init_15 rfl rfl (n := 16) rfl ?_
  refine w_putF (k := 0) (i := 2) (ty := .object "LabyrinthGarden$Garden") (ws' := [(h0, .inr (6, [.int 0, .int (-1), .ref p1]))]) C rfl rfl (by decide) (Nat.le_of_ble_eq_true rfl) inX6 tyX6 tyX6_ok nmX6 rfl rfl (by decide +kernel) rfl rfl w_6_9 dX6_init_16 (n := 19) rfl rfl ?_
  exact w_ret C (fun _ => 0) rfl dX6_init_19
def rm_X2_init : Room := { frames := 1, cells := 8, slots := 599, locals := 12 }
set_option maxRecDepth 100000 in
set_option maxHeartbeats 4000000 in
theorem c_X2_init {l : Launch} {D : va_G} {ar : Ar} (h0 : Nat) (p1 : Nat) : MetC l D ar yX2_init cX2_init 2 rm_X2_init [.ref h0, .ref p1] [(h0, .inr (2, [.null, .int 0, .null, .int 0, .null, .null, .null, .null, .null, .null, .null]))] (fun u => [(h0, .inr (2, [.ref (u 0), .int 0, .ref p1, .int 1, .ref (u 1), .ref (u 2), .ref (u 3), .ref (u 4), .ref (u 5), .ref (u 6), .ref (u 7)])), ((u 0), .inl (ar.1, 5, .inl (fun _ => 0))), ((u 1), .inl (ar.1, 144, .inl (fun _ => 0))), ((u 2), .inl (ar.1, 5, .inl (fun _ => 0))), ((u 3), .inl (ar.1, 144, .inl (fun _ => 0))), ((u 4), .inl (ar.1, 144, .inl (fun _ => 0))), ((u 5), .inl (ar.1, 144, .inl (fun _ => 0))), ((u 6), .inl (ar.1, 6, .inl (fun _ => 0))), ((u 7), .inl (ar.1, 7, .inl (fun _ => 0)))]) 8 599 := by
  refine metC_of (by decide +kernel) rfl (Nat.le_of_ble_eq_true rfl) (fun x e1 e2 e3 C => ?_)
  subst e1; subst e2; subst e3
  show VW x 2 _ [(h0, .inr (2, [.null, .int 0, .null, .int 0, .null, .null, .null, .null, .null, .null, .null]))] 0 0 0 [(0, .ref h0), (1, .ref p1)] []
  refine w_aload_n C 0 dX2_init_0 rfl rfl (n := 1) rfl ?_
  refine w_obj C w_6_13 w_1_11 w_1_12 dX2_init_1 (by decide) (Nat.le_of_ble_eq_true rfl) (n := 4) rfl ?_
  refine w_aload_n C 0 dX2_init_4 rfl rfl (n := 5) rfl ?_
  refine w_iconst (v := 5) C dX2_init_5 (by decide) (n := 6) rfl ?_
  refine w_newI (N := 5) C w_3_5 dX2_init_6 (by decide) (by decide) (by decide) (cs' := 1) rfl (ss' := 5) rfl (by decide) (by decide) (n := 8) rfl (fun a1 => ?_)
  show VW x 2 _ [(h0, .inr (2, [.null, .int 0, .null, .int 0, .null, .null, .null, .null, .null, .null, .null])), (a1, .inl ((xr x).1, 5, .inl (fun _ => 0)))] 1 5 8 _ _
  refine w_putF (k := 0) (i := 0) (ty := .array .int) (ws' := [(h0, .inr (2, [.ref a1, .int 0, .null, .int 0, .null, .null, .null, .null, .null, .null, .null])), (a1, .inl ((xr x).1, 5, .inl (fun _ => 0)))]) C rfl rfl (by decide) (Nat.le_of_ble_eq_true rfl) inX2 tyX2 tyX2_ok nmX2 rfl rfl (by decide +kernel) rfl rfl w_6_14 dX2_init_8 (n := 11) rfl rfl ?_
  refine w_aload_n C 0 dX2_init_11 rfl rfl (n := 12) rfl ?_
  refine w_iconst (v := 0) C dX2_init_12 (by decide) (n := 13) rfl ?_
  refine w_put (k := 0) (i := 1) (ty := .int) (ws' := [(h0, .inr (2, [.ref a1, .int 0, .null, .int 0, .null, .null, .null, .null, .null, .null, .null])), (a1, .inl ((xr x).1, 5, .inl (fun _ => 0)))]) C rfl rfl (by decide) (Nat.le_of_ble_eq_true rfl) inX2 tyX2 tyX2_ok nmX2 rfl (by decide +kernel) rfl rfl w_6_15 dX2_init_13 (n := 16) rfl rfl ?_
  refine w_aload_n C 0 dX2_init_16 rfl rfl (n := 17) rfl ?_
  refine w_iconst (v := 1) C dX2_init_17 (by decide) (n := 18) rfl ?_
  refine w_put (k := 0) (i := 3) (ty := .int) (ws' := [(h0, .inr (2, [.ref a1, .int 0, .null, .int 1, .null, .null, .null, .null, .null, .null, .null])), (a1, .inl ((xr x).1, 5, .inl (fun _ => 0)))]) C rfl rfl (by decide) (Nat.le_of_ble_eq_true rfl) inX2 tyX2 tyX2_ok nmX2 rfl (by decide +kernel) rfl rfl w_6_16 dX2_init_18 (n := 21) rfl rfl ?_
  refine w_aload_n C 0 dX2_init_21 rfl rfl (n := 22) rfl ?_
  refine w_sipush (v := 144) C dX2_init_22 (by decide) (n := 25) rfl ?_
  refine w_newI (N := 144) C w_3_5 dX2_init_25 (by decide) (by decide) (by decide) (cs' := 2) rfl (ss' := 149) rfl (by decide) (by decide) (n := 27) rfl (fun a2 => ?_)
  show VW x 2 _ [(h0, .inr (2, [.ref a1, .int 0, .null, .int 1, .null, .null, .null, .null, .null, .null, .null])), (a1, .inl ((xr x).1, 5, .inl (fun _ => 0))), (a2, .inl ((xr x).1, 144, .inl (fun _ => 0)))] 2 149 27 _ _
  refine w_putF (k := 0) (i := 4) (ty := .array .int) (ws' := [(h0, .inr (2, [.ref a1, .int 0, .null, .int 1, .ref a2, .null, .null, .null, .null, .null, .null])), (a1, .inl ((xr x).1, 5, .inl (fun _ => 0))), (a2, .inl ((xr x).1, 144, .inl (fun _ => 0)))]) C rfl rfl (by decide) (Nat.le_of_ble_eq_true rfl) inX2 tyX2 tyX2_ok nmX2 rfl rfl (by decide +kernel) rfl rfl w_6_17 dX2_init_27 (n := 30) rfl rfl ?_
  refine w_aload_n C 0 dX2_init_30 rfl rfl (n := 31) rfl ?_
  refine w_iconst (v := 5) C dX2_init_31 (by decide) (n := 32) rfl ?_
  refine w_newI (N := 5) C w_3_5 dX2_init_32 (by decide) (by decide) (by decide) (cs' := 3) rfl (ss' := 154) rfl (by decide) (by decide) (n := 34) rfl (fun a3 => ?_)
  show VW x 2 _ [(h0, .inr (2, [.ref a1, .int 0, .null, .int 1, .ref a2, .null, .null, .null, .null, .null, .null])), (a1, .inl ((xr x).1, 5, .inl (fun _ => 0))), (a2, .inl ((xr x).1, 144, .inl (fun _ => 0))), (a3, .inl ((xr x).1, 5, .inl (fun _ => 0)))] 3 154 34 _ _
  refine w_putF (k := 0) (i := 5) (ty := .array .int) (ws' := [(h0, .inr (2, [.ref a1, .int 0, .null, .int 1, .ref a2, .ref a3, .null, .null, .null, .null, .null])), (a1, .inl ((xr x).1, 5, .inl (fun _ => 0))), (a2, .inl ((xr x).1, 144, .inl (fun _ => 0))), (a3, .inl ((xr x).1, 5, .inl (fun _ => 0)))]) C rfl rfl (by decide) (Nat.le_of_ble_eq_true rfl) inX2 tyX2 tyX2_ok nmX2 rfl rfl (by decide +kernel) rfl rfl w_6_18 dX2_init_34 (n := 37) rfl rfl ?_
  refine w_aload_n C 0 dX2_init_37 rfl rfl (n := 38) rfl ?_
  refine w_sipush (v := 144) C dX2_init_38 (by decide) (n := 41) rfl ?_
  refine w_newI (N := 144) C w_3_5 dX2_init_41 (by decide) (by decide) (by decide) (cs' := 4) rfl (ss' := 298) rfl (by decide) (by decide) (n := 43) rfl (fun a4 => ?_)
  show VW x 2 _ [(h0, .inr (2, [.ref a1, .int 0, .null, .int 1, .ref a2, .ref a3, .null, .null, .null, .null, .null])), (a1, .inl ((xr x).1, 5, .inl (fun _ => 0))), (a2, .inl ((xr x).1, 144, .inl (fun _ => 0))), (a3, .inl ((xr x).1, 5, .inl (fun _ => 0))), (a4, .inl ((xr x).1, 144, .inl (fun _ => 0)))] 4 298 43 _ _
  refine w_putF (k := 0) (i := 6) (ty := .array .int) (ws' := [(h0, .inr (2, [.ref a1, .int 0, .null, .int 1, .ref a2, .ref a3, .ref a4, .null, .null, .null, .null])), (a1, .inl ((xr x).1, 5, .inl (fun _ => 0))), (a2, .inl ((xr x).1, 144, .inl (fun _ => 0))), (a3, .inl ((xr x).1, 5, .inl (fun _ => 0))), (a4, .inl ((xr x).1, 144, .inl (fun _ => 0)))]) C rfl rfl (by decide) (Nat.le_of_ble_eq_true rfl) inX2 tyX2 tyX2_ok nmX2 rfl rfl (by decide +kernel) rfl rfl w_6_19 dX2_init_43 (n := 46) rfl rfl ?_
  refine w_aload_n C 0 dX2_init_46 rfl rfl (n := 47) rfl ?_
  refine w_sipush (v := 144) C dX2_init_47 (by decide) (n := 50) rfl ?_
  refine w_newI (N := 144) C w_3_5 dX2_init_50 (by decide) (by decide) (by decide) (cs' := 5) rfl (ss' := 442) rfl (by decide) (by decide) (n := 52) rfl (fun a5 => ?_)
  show VW x 2 _ [(h0, .inr (2, [.ref a1, .int 0, .null, .int 1, .ref a2, .ref a3, .ref a4, .null, .null, .null, .null])), (a1, .inl ((xr x).1, 5, .inl (fun _ => 0))), (a2, .inl ((xr x).1, 144, .inl (fun _ => 0))), (a3, .inl ((xr x).1, 5, .inl (fun _ => 0))), (a4, .inl ((xr x).1, 144, .inl (fun _ => 0))), (a5, .inl ((xr x).1, 144, .inl (fun _ => 0)))] 5 442 52 _ _
  refine w_putF (k := 0) (i := 7) (ty := .array .int) (ws' := [(h0, .inr (2, [.ref a1, .int 0, .null, .int 1, .ref a2, .ref a3, .ref a4, .ref a5, .null, .null, .null])), (a1, .inl ((xr x).1, 5, .inl (fun _ => 0))), (a2, .inl ((xr x).1, 144, .inl (fun _ => 0))), (a3, .inl ((xr x).1, 5, .inl (fun _ => 0))), (a4, .inl ((xr x).1, 144, .inl (fun _ => 0))), (a5, .inl ((xr x).1, 144, .inl (fun _ => 0)))]) C rfl rfl (by decide) (Nat.le_of_ble_eq_true rfl) inX2 tyX2 tyX2_ok nmX2 rfl rfl (by decide +kernel) rfl rfl w_6_20 dX2_init_52 (n := 55) rfl rfl ?_
  refine w_aload_n C 0 dX2_init_55 rfl rfl (n := 56) rfl ?_
  refine w_sipush (v := 144) C dX2_init_56 (by decide) (n := 59) rfl ?_
  refine w_newI (N := 144) C w_3_5 dX2_init_59 (by decide) (by decide) (by decide) (cs' := 6) rfl (ss' := 586) rfl (by decide) (by decide) (n := 61) rfl (fun a6 => ?_)
  show VW x 2 _ [(h0, .inr (2, [.ref a1, .int 0, .null, .int 1, .ref a2, .ref a3, .ref a4, .ref a5, .null, .null, .null])), (a1, .inl ((xr x).1, 5, .inl (fun _ => 0))), (a2, .inl ((xr x).1, 144, .inl (fun _ => 0))), (a3, .inl ((xr x).1, 5, .inl (fun _ => 0))), (a4, .inl ((xr x).1, 144, .inl (fun _ => 0))), (a5, .inl ((xr x).1, 144, .inl (fun _ => 0))), (a6, .inl ((xr x).1, 144, .inl (fun _ => 0)))] 6 586 61 _ _
  refine w_putF (k := 0) (i := 8) (ty := .array .int) (ws' := [(h0, .inr (2, [.ref a1, .int 0, .null, .int 1, .ref a2, .ref a3, .ref a4, .ref a5, .ref a6, .null, .null])), (a1, .inl ((xr x).1, 5, .inl (fun _ => 0))), (a2, .inl ((xr x).1, 144, .inl (fun _ => 0))), (a3, .inl ((xr x).1, 5, .inl (fun _ => 0))), (a4, .inl ((xr x).1, 144, .inl (fun _ => 0))), (a5, .inl ((xr x).1, 144, .inl (fun _ => 0))), (a6, .inl ((xr x).1, 144, .inl (fun _ => 0)))]) C rfl rfl (by decide) (Nat.le_of_ble_eq_true rfl) inX2 tyX2 tyX2_ok nmX2 rfl rfl (by decide +kernel) rfl rfl w_6_21 dX2_init_61 (n := 64) rfl rfl ?_
  refine w_aload_n C 0 dX2_init_64 rfl rfl (n := 65) rfl ?_
  refine w_bipush (v := 6) C dX2_init_65 (by decide) (n := 67) rfl ?_
  refine w_newI (N := 6) C w_3_5 dX2_init_67 (by decide) (by decide) (by decide) (cs' := 7) rfl (ss' := 592) rfl (by decide) (by decide) (n := 69) rfl (fun a7 => ?_)
  show VW x 2 _ [(h0, .inr (2, [.ref a1, .int 0, .null, .int 1, .ref a2, .ref a3, .ref a4, .ref a5, .ref a6, .null, .null])), (a1, .inl ((xr x).1, 5, .inl (fun _ => 0))), (a2, .inl ((xr x).1, 144, .inl (fun _ => 0))), (a3, .inl ((xr x).1, 5, .inl (fun _ => 0))), (a4, .inl ((xr x).1, 144, .inl (fun _ => 0))), (a5, .inl ((xr x).1, 144, .inl (fun _ => 0))), (a6, .inl ((xr x).1, 144, .inl (fun _ => 0))), (a7, .inl ((xr x).1, 6, .inl (fun _ => 0)))] 7 592 69 _ _
  refine w_putF (k := 0) (i := 9) (ty := .array .int) (ws' := [(h0, .inr (2, [.ref a1, .int 0, .null, .int 1, .ref a2, .ref a3, .ref a4, .ref a5, .ref a6, .ref a7, .null])), (a1, .inl ((xr x).1, 5, .inl (fun _ => 0))), (a2, .inl ((xr x).1, 144, .inl (fun _ => 0))), (a3, .inl ((xr x).1, 5, .inl (fun _ => 0))), (a4, .inl ((xr x).1, 144, .inl (fun _ => 0))), (a5, .inl ((xr x).1, 144, .inl (fun _ => 0))), (a6, .inl ((xr x).1, 144, .inl (fun _ => 0))), (a7, .inl ((xr x).1, 6, .inl (fun _ => 0)))]) C rfl rfl (by decide) (Nat.le_of_ble_eq_true rfl) inX2 tyX2 tyX2_ok nmX2 rfl rfl (by decide +kernel) rfl rfl w_6_22 dX2_init_69 (n := 72) rfl rfl ?_
  refine w_aload_n C 0 dX2_init_72 rfl rfl (n := 73) rfl ?_
  refine w_bipush (v := 7) C dX2_init_73 (by decide) (n := 75) rfl ?_
  refine w_newI (N := 7) C w_3_5 dX2_init_75 (by decide) (by decide) (by decide) (cs' := 8) rfl (ss' := 599) rfl (by decide) (by decide) (n := 77) rfl (fun a8 => ?_)
  show VW x 2 _ [(h0, .inr (2, [.ref a1, .int 0, .null, .int 1, .ref a2, .ref a3, .ref a4, .ref a5, .ref a6, .ref a7, .null])), (a1, .inl ((xr x).1, 5, .inl (fun _ => 0))), (a2, .inl ((xr x).1, 144, .inl (fun _ => 0))), (a3, .inl ((xr x).1, 5, .inl (fun _ => 0))), (a4, .inl ((xr x).1, 144, .inl (fun _ => 0))), (a5, .inl ((xr x).1, 144, .inl (fun _ => 0))), (a6, .inl ((xr x).1, 144, .inl (fun _ => 0))), (a7, .inl ((xr x).1, 6, .inl (fun _ => 0))), (a8, .inl ((xr x).1, 7, .inl (fun _ => 0)))] 8 599 77 _ _
  refine w_putF (k := 0) (i := 10) (ty := .array .int) (ws' := [(h0, .inr (2, [.ref a1, .int 0, .null, .int 1, .ref a2, .ref a3, .ref a4, .ref a5, .ref a6, .ref a7, .ref a8])), (a1, .inl ((xr x).1, 5, .inl (fun _ => 0))), (a2, .inl ((xr x).1, 144, .inl (fun _ => 0))), (a3, .inl ((xr x).1, 5, .inl (fun _ => 0))), (a4, .inl ((xr x).1, 144, .inl (fun _ => 0))), (a5, .inl ((xr x).1, 144, .inl (fun _ => 0))), (a6, .inl ((xr x).1, 144, .inl (fun _ => 0))), (a7, .inl ((xr x).1, 6, .inl (fun _ => 0))), (a8, .inl ((xr x).1, 7, .inl (fun _ => 0)))]) C rfl rfl (by decide) (Nat.le_of_ble_eq_true rfl) inX2 tyX2 tyX2_ok nmX2 rfl rfl (by decide +kernel) rfl rfl w_6_23 dX2_init_77 (n := 80) rfl rfl ?_
  refine w_aload_n C 0 dX2_init_80 rfl rfl (n := 81) rfl ?_
  refine w_aload_n C 1 dX2_init_81 rfl rfl (n := 82) rfl ?_
  refine w_putF (k := 0) (i := 2) (ty := .object "LabyrinthGarden$Garden") (ws' := [(h0, .inr (2, [.ref a1, .int 0, .ref p1, .int 1, .ref a2, .ref a3, .ref a4, .ref a5, .ref a6, .ref a7, .ref a8])), (a1, .inl ((xr x).1, 5, .inl (fun _ => 0))), (a2, .inl ((xr x).1, 144, .inl (fun _ => 0))), (a3, .inl ((xr x).1, 5, .inl (fun _ => 0))), (a4, .inl ((xr x).1, 144, .inl (fun _ => 0))), (a5, .inl ((xr x).1, 144, .inl (fun _ => 0))), (a6, .inl ((xr x).1, 144, .inl (fun _ => 0))), (a7, .inl ((xr x).1, 6, .inl (fun _ => 0))), (a8, .inl ((xr x).1, 7, .inl (fun _ => 0)))]) C rfl rfl (by decide) (Nat.le_of_ble_eq_true rfl) inX2 tyX2 tyX2_ok nmX2 rfl rfl (by decide +kernel) rfl rfl w_7_0 dX2_init_82 (n := 85) rfl rfl ?_
  exact w_ret C (fun k => match k with | 0 => a1 | 1 => a2 | 2 => a3 | 3 => a4 | 4 => a5 | 5 => a6 | 6 => a7 | 7 => a8 | _ => 0) rfl dX2_init_85
