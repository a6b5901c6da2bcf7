/-! constructors of the small classes, by program -/
abbrev rmX7_init : Room := { frames := 1, cells := 6, slots := 46, locals := 12 }
def wX7 (ad : Nat → Nat) (cy : Nat → ClassId) : va_W := [(ad 0, .inr (5, [.int 0, .ref (ad 1), .ref (ad 2), .ref (ad 3), .ref (ad 4), .ref (ad 5), .ref (ad 6), .int 0, .int 90, .int 30, .int 0, .int 0, .int 0])), (ad 1, .inl (cy 1, 8, .inl (fun _ => 0))), (ad 2, .inl (cy 2, 8, .inl (fun _ => 0))), (ad 3, .inl (cy 3, 8, .inl (fun _ => 0))), (ad 4, .inl (cy 4, 8, .inl (fun _ => 0))), (ad 5, .inl (cy 5, 8, .inl (fun _ => 0))), (ad 6, .inl (cy 6, 6, .inl (upd (upd (upd (upd (upd (upd (fun _ => 0) (Int32.toNatClampNeg 0) 0) (Int32.toNatClampNeg 1) 1) (Int32.toNatClampNeg 2) 2) (Int32.toNatClampNeg 3) 3) (Int32.toNatClampNeg 4) 4) (Int32.toNatClampNeg 5) 5)))]
def tX7 (cy : Nat → ClassId) : List (ClassId × FieldType) := [(cy 1, .int), (cy 2, .int), (cy 3, .int), (cy 4, .int), (cy 5, .int), (cy 6, .int)]
set_option maxRecDepth 20000 in
set_option maxHeartbeats 4000000 in
theorem iX7_walk (l : Launch) (D : va_G) (h0 : Nat) (w9 : va_W) {p : Program} {e : Env} {s : State} {m : MethodId} {args : Array Value} {below : List Frame} {meth : Method} {c : Code} {Q : State → Prop} (J : zJ p s m args meth c cX7_init 2 RX7 (va_A w9 s.heap.size)) (hret : ∀ (pc : Nat) (ls : Array Slot) (H : Heap) (locs : List Loc) (u : (Nat → Nat) × (Nat → ClassId)), decode cX7_init pc = .ok (.return_, 1) → u.1 0 = h0 → zB D (va_A w9 s.heap.size) s H locs (wX7 u.1 u.2) (tX7 u.2) → W p l e rmX7_init s m args below meth c H locs 6 46 Q (F0 m pc ls [])) (ls : Array Slot) (hl : lv_has ls 2 [(0, .ref h0)]) (H : Heap) (locs : List Loc) (hW : zB D (va_A w9 s.heap.size) s H locs [(h0, .inr (5, [.int 0, .null, .null, .null, .null, .null, .null, .int 0, .int 0, .int 0, .int 0, .int 0, .int 0]))] []) : W p l e rmX7_init s m args below meth c H locs 0 0 Q (F0 m 0 ls []) := by
  have hx := J.1.1; have hb0 := J.1.2.1
  refine lv_aload_n hx hb0 dX7_init_0 rfl (lv_at hl 0 rfl) ?_
  refine j_obj J zl_X7_3 hl.1 (Nat.le_of_ble_eq_true rfl) (Nat.le_of_ble_eq_true rfl) dX7_init_1 ?_
  refine lv_aload_n hx hb0 dX7_init_4 rfl (lv_at hl 0 rfl) ?_
  refine lv_iconst (v := (0 : Int32)) hx hb0 dX7_init_5 (by decide) ?_
  refine j_put (ty := .int) J hW zC5 0 rfl 0 (by decide) rfl zl_X7_9 rfl (by decide +kernel) rfl rfl (Nat.le_of_ble_eq_true rfl) dX7_init_6 (fun H locs hW => ?_)
  have hW : zB D (va_A w9 s.heap.size) s _ _ [(h0, .inr (5, [.int 0, .null, .null, .null, .null, .null, .null, .int 0, .int 0, .int 0, .int 0, .int 0, .int 0]))] [] := hW
  refine lv_aload_n hx hb0 dX7_init_9 rfl (lv_at hl 0 rfl) ?_
  refine lv_bipush (v := (8 : Int32)) hx hb0 dX7_init_10 (by decide) ?_
  refine j_newa (atype := .int) (a0 := (8, .inl (fun _ => 0))) (ty := .int) J hW zw_acint rfl (fun _ => rfl) (by decide) (by decide) (by decide) (Nat.le_of_ble_eq_true rfl) (Nat.le_of_ble_eq_true rfl) dX7_init_12 (fun q12 c12 H hW => ?_)
  have hW : zB D (va_A w9 s.heap.size) s _ _ [(h0, .inr (5, [.int 0, .null, .null, .null, .null, .null, .null, .int 0, .int 0, .int 0, .int 0, .int 0, .int 0])), (q12, .inl (c12, 8, .inl (fun _ => 0)))] [(c12, .int)] := hW
  refine j_putF (ty := (.array .int)) J hW zC5 0 rfl 1 (by decide) rfl zl_X7_15 rfl rfl (by decide +kernel) rfl rfl (Nat.le_of_ble_eq_true rfl) dX7_init_14 (fun H locs hW => ?_)
  have hW : zB D (va_A w9 s.heap.size) s _ _ [(h0, .inr (5, [.int 0, .ref q12, .null, .null, .null, .null, .null, .int 0, .int 0, .int 0, .int 0, .int 0, .int 0])), (q12, .inl (c12, 8, .inl (fun _ => 0)))] [(c12, .int)] := hW
  refine lv_aload_n hx hb0 dX7_init_17 rfl (lv_at hl 0 rfl) ?_
  refine lv_bipush (v := (8 : Int32)) hx hb0 dX7_init_18 (by decide) ?_
  refine j_newa (atype := .int) (a0 := (8, .inl (fun _ => 0))) (ty := .int) J hW zw_acint rfl (fun _ => rfl) (by decide) (by decide) (by decide) (Nat.le_of_ble_eq_true rfl) (Nat.le_of_ble_eq_true rfl) dX7_init_20 (fun q20 c20 H hW => ?_)
  have hW : zB D (va_A w9 s.heap.size) s _ _ [(h0, .inr (5, [.int 0, .ref q12, .null, .null, .null, .null, .null, .int 0, .int 0, .int 0, .int 0, .int 0, .int 0])), (q12, .inl (c12, 8, .inl (fun _ => 0))), (q20, .inl (c20, 8, .inl (fun _ => 0)))] [(c12, .int), (c20, .int)] := hW
  refine j_putF (ty := (.array .int)) J hW zC5 0 rfl 2 (by decide) rfl zl_X7_19 rfl rfl (by decide +kernel) rfl rfl (Nat.le_of_ble_eq_true rfl) dX7_init_22 (fun H locs hW => ?_)
  have hW : zB D (va_A w9 s.heap.size) s _ _ [(h0, .inr (5, [.int 0, .ref q12, .ref q20, .null, .null, .null, .null, .int 0, .int 0, .int 0, .int 0, .int 0, .int 0])), (q12, .inl (c12, 8, .inl (fun _ => 0))), (q20, .inl (c20, 8, .inl (fun _ => 0)))] [(c12, .int), (c20, .int)] := hW
  refine lv_aload_n hx hb0 dX7_init_25 rfl (lv_at hl 0 rfl) ?_
  refine lv_bipush (v := (8 : Int32)) hx hb0 dX7_init_26 (by decide) ?_
  refine j_newa (atype := .int) (a0 := (8, .inl (fun _ => 0))) (ty := .int) J hW zw_acint rfl (fun _ => rfl) (by decide) (by decide) (by decide) (Nat.le_of_ble_eq_true rfl) (Nat.le_of_ble_eq_true rfl) dX7_init_28 (fun q28 c28 H hW => ?_)
  have hW : zB D (va_A w9 s.heap.size) s _ _ [(h0, .inr (5, [.int 0, .ref q12, .ref q20, .null, .null, .null, .null, .int 0, .int 0, .int 0, .int 0, .int 0, .int 0])), (q12, .inl (c12, 8, .inl (fun _ => 0))), (q20, .inl (c20, 8, .inl (fun _ => 0))), (q28, .inl (c28, 8, .inl (fun _ => 0)))] [(c12, .int), (c20, .int), (c28, .int)] := hW
  refine j_putF (ty := (.array .int)) J hW zC5 0 rfl 3 (by decide) rfl zl_X7_22 rfl rfl (by decide +kernel) rfl rfl (Nat.le_of_ble_eq_true rfl) dX7_init_30 (fun H locs hW => ?_)
  have hW : zB D (va_A w9 s.heap.size) s _ _ [(h0, .inr (5, [.int 0, .ref q12, .ref q20, .ref q28, .null, .null, .null, .int 0, .int 0, .int 0, .int 0, .int 0, .int 0])), (q12, .inl (c12, 8, .inl (fun _ => 0))), (q20, .inl (c20, 8, .inl (fun _ => 0))), (q28, .inl (c28, 8, .inl (fun _ => 0)))] [(c12, .int), (c20, .int), (c28, .int)] := hW
  refine lv_aload_n hx hb0 dX7_init_33 rfl (lv_at hl 0 rfl) ?_
  refine lv_bipush (v := (8 : Int32)) hx hb0 dX7_init_34 (by decide) ?_
  refine j_newa (atype := .int) (a0 := (8, .inl (fun _ => 0))) (ty := .int) J hW zw_acint rfl (fun _ => rfl) (by decide) (by decide) (by decide) (Nat.le_of_ble_eq_true rfl) (Nat.le_of_ble_eq_true rfl) dX7_init_36 (fun q36 c36 H hW => ?_)
  have hW : zB D (va_A w9 s.heap.size) s _ _ [(h0, .inr (5, [.int 0, .ref q12, .ref q20, .ref q28, .null, .null, .null, .int 0, .int 0, .int 0, .int 0, .int 0, .int 0])), (q12, .inl (c12, 8, .inl (fun _ => 0))), (q20, .inl (c20, 8, .inl (fun _ => 0))), (q28, .inl (c28, 8, .inl (fun _ => 0))), (q36, .inl (c36, 8, .inl (fun _ => 0)))] [(c12, .int), (c20, .int), (c28, .int), (c36, .int)] := hW
  refine j_putF (ty := (.array .int)) J hW zC5 0 rfl 4 (by decide) rfl zl_X7_25 rfl rfl (by decide +kernel) rfl rfl (Nat.le_of_ble_eq_true rfl) dX7_init_38 (fun H locs hW => ?_)
  have hW : zB D (va_A w9 s.heap.size) s _ _ [(h0, .inr (5, [.int 0, .ref q12, .ref q20, .ref q28, .ref q36, .null, .null, .int 0, .int 0, .int 0, .int 0, .int 0, .int 0])), (q12, .inl (c12, 8, .inl (fun _ => 0))), (q20, .inl (c20, 8, .inl (fun _ => 0))), (q28, .inl (c28, 8, .inl (fun _ => 0))), (q36, .inl (c36, 8, .inl (fun _ => 0)))] [(c12, .int), (c20, .int), (c28, .int), (c36, .int)] := hW
  refine lv_aload_n hx hb0 dX7_init_41 rfl (lv_at hl 0 rfl) ?_
  refine lv_bipush (v := (8 : Int32)) hx hb0 dX7_init_42 (by decide) ?_
  refine j_newa (atype := .int) (a0 := (8, .inl (fun _ => 0))) (ty := .int) J hW zw_acint rfl (fun _ => rfl) (by decide) (by decide) (by decide) (Nat.le_of_ble_eq_true rfl) (Nat.le_of_ble_eq_true rfl) dX7_init_44 (fun q44 c44 H hW => ?_)
  have hW : zB D (va_A w9 s.heap.size) s _ _ [(h0, .inr (5, [.int 0, .ref q12, .ref q20, .ref q28, .ref q36, .null, .null, .int 0, .int 0, .int 0, .int 0, .int 0, .int 0])), (q12, .inl (c12, 8, .inl (fun _ => 0))), (q20, .inl (c20, 8, .inl (fun _ => 0))), (q28, .inl (c28, 8, .inl (fun _ => 0))), (q36, .inl (c36, 8, .inl (fun _ => 0))), (q44, .inl (c44, 8, .inl (fun _ => 0)))] [(c12, .int), (c20, .int), (c28, .int), (c36, .int), (c44, .int)] := hW
  refine j_putF (ty := (.array .int)) J hW zC5 0 rfl 5 (by decide) rfl zl_X7_28 rfl rfl (by decide +kernel) rfl rfl (Nat.le_of_ble_eq_true rfl) dX7_init_46 (fun H locs hW => ?_)
  have hW : zB D (va_A w9 s.heap.size) s _ _ [(h0, .inr (5, [.int 0, .ref q12, .ref q20, .ref q28, .ref q36, .ref q44, .null, .int 0, .int 0, .int 0, .int 0, .int 0, .int 0])), (q12, .inl (c12, 8, .inl (fun _ => 0))), (q20, .inl (c20, 8, .inl (fun _ => 0))), (q28, .inl (c28, 8, .inl (fun _ => 0))), (q36, .inl (c36, 8, .inl (fun _ => 0))), (q44, .inl (c44, 8, .inl (fun _ => 0)))] [(c12, .int), (c20, .int), (c28, .int), (c36, .int), (c44, .int)] := hW
  refine lv_aload_n hx hb0 dX7_init_49 rfl (lv_at hl 0 rfl) ?_
  refine lv_bipush (v := (6 : Int32)) hx hb0 dX7_init_50 (by decide) ?_
  refine j_newa (atype := .int) (a0 := (6, .inl (fun _ => 0))) (ty := .int) J hW zw_acint rfl (fun _ => rfl) (by decide) (by decide) (by decide) (Nat.le_of_ble_eq_true rfl) (Nat.le_of_ble_eq_true rfl) dX7_init_52 (fun q52 c52 H hW => ?_)
  have hW : zB D (va_A w9 s.heap.size) s _ _ [(h0, .inr (5, [.int 0, .ref q12, .ref q20, .ref q28, .ref q36, .ref q44, .null, .int 0, .int 0, .int 0, .int 0, .int 0, .int 0])), (q12, .inl (c12, 8, .inl (fun _ => 0))), (q20, .inl (c20, 8, .inl (fun _ => 0))), (q28, .inl (c28, 8, .inl (fun _ => 0))), (q36, .inl (c36, 8, .inl (fun _ => 0))), (q44, .inl (c44, 8, .inl (fun _ => 0))), (q52, .inl (c52, 6, .inl (fun _ => 0)))] [(c12, .int), (c20, .int), (c28, .int), (c36, .int), (c44, .int), (c52, .int)] := hW
  refine j_putF (ty := (.array .int)) J hW zC5 0 rfl 6 (by decide) rfl zl_X7_31 rfl rfl (by decide +kernel) rfl rfl (Nat.le_of_ble_eq_true rfl) dX7_init_54 (fun H locs hW => ?_)
  have hW : zB D (va_A w9 s.heap.size) s _ _ [(h0, .inr (5, [.int 0, .ref q12, .ref q20, .ref q28, .ref q36, .ref q44, .ref q52, .int 0, .int 0, .int 0, .int 0, .int 0, .int 0])), (q12, .inl (c12, 8, .inl (fun _ => 0))), (q20, .inl (c20, 8, .inl (fun _ => 0))), (q28, .inl (c28, 8, .inl (fun _ => 0))), (q36, .inl (c36, 8, .inl (fun _ => 0))), (q44, .inl (c44, 8, .inl (fun _ => 0))), (q52, .inl (c52, 6, .inl (fun _ => 0)))] [(c12, .int), (c20, .int), (c28, .int), (c36, .int), (c44, .int), (c52, .int)] := hW
  refine lv_aload_n hx hb0 dX7_init_57 rfl (lv_at hl 0 rfl) ?_
  refine lv_iconst (v := (0 : Int32)) hx hb0 dX7_init_58 (by decide) ?_
  refine j_put (ty := .int) J hW zC5 0 rfl 7 (by decide) rfl zl_X7_34 rfl (by decide +kernel) rfl rfl (Nat.le_of_ble_eq_true rfl) dX7_init_59 (fun H locs hW => ?_)
  have hW : zB D (va_A w9 s.heap.size) s _ _ [(h0, .inr (5, [.int 0, .ref q12, .ref q20, .ref q28, .ref q36, .ref q44, .ref q52, .int 0, .int 0, .int 0, .int 0, .int 0, .int 0])), (q12, .inl (c12, 8, .inl (fun _ => 0))), (q20, .inl (c20, 8, .inl (fun _ => 0))), (q28, .inl (c28, 8, .inl (fun _ => 0))), (q36, .inl (c36, 8, .inl (fun _ => 0))), (q44, .inl (c44, 8, .inl (fun _ => 0))), (q52, .inl (c52, 6, .inl (fun _ => 0)))] [(c12, .int), (c20, .int), (c28, .int), (c36, .int), (c44, .int), (c52, .int)] := hW
  refine lv_aload_n hx hb0 dX7_init_62 rfl (lv_at hl 0 rfl) ?_
  refine lv_bipush (v := (90 : Int32)) hx hb0 dX7_init_63 (by decide) ?_
  refine j_put (ty := .int) J hW zC5 0 rfl 8 (by decide) rfl zl_X7_37 rfl (by decide +kernel) rfl rfl (Nat.le_of_ble_eq_true rfl) dX7_init_65 (fun H locs hW => ?_)
  have hW : zB D (va_A w9 s.heap.size) s _ _ [(h0, .inr (5, [.int 0, .ref q12, .ref q20, .ref q28, .ref q36, .ref q44, .ref q52, .int 0, .int 90, .int 0, .int 0, .int 0, .int 0])), (q12, .inl (c12, 8, .inl (fun _ => 0))), (q20, .inl (c20, 8, .inl (fun _ => 0))), (q28, .inl (c28, 8, .inl (fun _ => 0))), (q36, .inl (c36, 8, .inl (fun _ => 0))), (q44, .inl (c44, 8, .inl (fun _ => 0))), (q52, .inl (c52, 6, .inl (fun _ => 0)))] [(c12, .int), (c20, .int), (c28, .int), (c36, .int), (c44, .int), (c52, .int)] := hW
  refine lv_aload_n hx hb0 dX7_init_68 rfl (lv_at hl 0 rfl) ?_
  refine lv_bipush (v := (30 : Int32)) hx hb0 dX7_init_69 (by decide) ?_
  refine j_put (ty := .int) J hW zC5 0 rfl 9 (by decide) rfl zl_X7_40 rfl (by decide +kernel) rfl rfl (Nat.le_of_ble_eq_true rfl) dX7_init_71 (fun H locs hW => ?_)
  have hW : zB D (va_A w9 s.heap.size) s _ _ [(h0, .inr (5, [.int 0, .ref q12, .ref q20, .ref q28, .ref q36, .ref q44, .ref q52, .int 0, .int 90, .int 30, .int 0, .int 0, .int 0])), (q12, .inl (c12, 8, .inl (fun _ => 0))), (q20, .inl (c20, 8, .inl (fun _ => 0))), (q28, .inl (c28, 8, .inl (fun _ => 0))), (q36, .inl (c36, 8, .inl (fun _ => 0))), (q44, .inl (c44, 8, .inl (fun _ => 0))), (q52, .inl (c52, 6, .inl (fun _ => 0)))] [(c12, .int), (c20, .int), (c28, .int), (c36, .int), (c44, .int), (c52, .int)] := hW
  refine lv_aload_n hx hb0 dX7_init_74 rfl (lv_at hl 0 rfl) ?_
  refine lv_iconst (v := (0 : Int32)) hx hb0 dX7_init_75 (by decide) ?_
  refine j_put (ty := .int) J hW zC5 0 rfl 10 (by decide) rfl zl_X7_43 rfl (by decide +kernel) rfl rfl (Nat.le_of_ble_eq_true rfl) dX7_init_76 (fun H locs hW => ?_)
  have hW : zB D (va_A w9 s.heap.size) s _ _ [(h0, .inr (5, [.int 0, .ref q12, .ref q20, .ref q28, .ref q36, .ref q44, .ref q52, .int 0, .int 90, .int 30, .int 0, .int 0, .int 0])), (q12, .inl (c12, 8, .inl (fun _ => 0))), (q20, .inl (c20, 8, .inl (fun _ => 0))), (q28, .inl (c28, 8, .inl (fun _ => 0))), (q36, .inl (c36, 8, .inl (fun _ => 0))), (q44, .inl (c44, 8, .inl (fun _ => 0))), (q52, .inl (c52, 6, .inl (fun _ => 0)))] [(c12, .int), (c20, .int), (c28, .int), (c36, .int), (c44, .int), (c52, .int)] := hW
  refine lv_aload_n hx hb0 dX7_init_79 rfl (lv_at hl 0 rfl) ?_
  refine lv_iconst (v := (0 : Int32)) hx hb0 dX7_init_80 (by decide) ?_
  refine j_put (ty := .int) J hW zC5 0 rfl 11 (by decide) rfl zl_X7_46 rfl (by decide +kernel) rfl rfl (Nat.le_of_ble_eq_true rfl) dX7_init_81 (fun H locs hW => ?_)
  have hW : zB D (va_A w9 s.heap.size) s _ _ [(h0, .inr (5, [.int 0, .ref q12, .ref q20, .ref q28, .ref q36, .ref q44, .ref q52, .int 0, .int 90, .int 30, .int 0, .int 0, .int 0])), (q12, .inl (c12, 8, .inl (fun _ => 0))), (q20, .inl (c20, 8, .inl (fun _ => 0))), (q28, .inl (c28, 8, .inl (fun _ => 0))), (q36, .inl (c36, 8, .inl (fun _ => 0))), (q44, .inl (c44, 8, .inl (fun _ => 0))), (q52, .inl (c52, 6, .inl (fun _ => 0)))] [(c12, .int), (c20, .int), (c28, .int), (c36, .int), (c44, .int), (c52, .int)] := hW
  refine lv_aload_n hx hb0 dX7_init_84 rfl (lv_at hl 0 rfl) ?_
  refine lv_iconst (v := (0 : Int32)) hx hb0 dX7_init_85 (by decide) ?_
  refine j_put (ty := .int) J hW zC5 0 rfl 12 (by decide) rfl zl_X7_49 rfl (by decide +kernel) rfl rfl (Nat.le_of_ble_eq_true rfl) dX7_init_86 (fun H locs hW => ?_)
  have hW : zB D (va_A w9 s.heap.size) s _ _ [(h0, .inr (5, [.int 0, .ref q12, .ref q20, .ref q28, .ref q36, .ref q44, .ref q52, .int 0, .int 90, .int 30, .int 0, .int 0, .int 0])), (q12, .inl (c12, 8, .inl (fun _ => 0))), (q20, .inl (c20, 8, .inl (fun _ => 0))), (q28, .inl (c28, 8, .inl (fun _ => 0))), (q36, .inl (c36, 8, .inl (fun _ => 0))), (q44, .inl (c44, 8, .inl (fun _ => 0))), (q52, .inl (c52, 6, .inl (fun _ => 0)))] [(c12, .int), (c20, .int), (c28, .int), (c36, .int), (c44, .int), (c52, .int)] := hW
  refine lv_iconst (v := (0 : Int32)) hx hb0 dX7_init_89 (by decide) ?_
  refine lv_istore_n (lv' := [(1, .int (0 : Int32)), (0, .ref h0)]) hx hb0 dX7_init_90 rfl hl (by decide) rfl (fun ls hl => ?_)
  refine lv_iload_n (x := (0 : Int32)) hx hb0 dX7_init_91 rfl (lv_at hl 0 rfl) ?_
  refine lv_bipush (v := (6 : Int32)) hx hb0 dX7_init_92 (by decide) ?_
  refine lv_icmp_ge (tgt := 110) hx hb0 dX7_init_94 (by decide) (fun c9 => absurd c9 (by decide)) (fun c9 => ?_)
  refine lv_aload_n hx hb0 dX7_init_97 rfl (lv_at hl 1 rfl) ?_
  refine j_get (k := 6) (v := .ref q52) J hW zC5 0 rfl 6 (by decide) rfl zl_X7_31 rfl dX7_init_98 ?_
  refine lv_iload_n (x := (0 : Int32)) hx hb0 dX7_init_101 rfl (lv_at hl 0 rfl) ?_
  refine lv_iload_n (x := (0 : Int32)) hx hb0 dX7_init_102 rfl (lv_at hl 0 rfl) ?_
  refine j_iast J hW 6 5 rfl rfl (by unfold vp_in; decide) dX7_init_103 (fun H locs hW => ?_)
  have hW : zB D (va_A w9 s.heap.size) s _ _ [(h0, .inr (5, [.int 0, .ref q12, .ref q20, .ref q28, .ref q36, .ref q44, .ref q52, .int 0, .int 90, .int 30, .int 0, .int 0, .int 0])), (q12, .inl (c12, 8, .inl (fun _ => 0))), (q20, .inl (c20, 8, .inl (fun _ => 0))), (q28, .inl (c28, 8, .inl (fun _ => 0))), (q36, .inl (c36, 8, .inl (fun _ => 0))), (q44, .inl (c44, 8, .inl (fun _ => 0))), (q52, .inl (c52, 6, .inl (upd (fun _ => 0) (Int32.toNatClampNeg 0) 0)))] [(c12, .int), (c20, .int), (c28, .int), (c36, .int), (c44, .int), (c52, .int)] := hW
  refine lv_iinc (v := (1 : Int32)) (lv' := [(1, .int (1 : Int32)), (0, .ref h0)]) hx hb0 dX7_init_104 hl (k := 0) rfl (by decide) (by decide) rfl (fun ls hl => ?_)
  refine lv_goto (tgt := 91) hx hb0 dX7_init_107 (by decide) ?_
  refine lv_iload_n (x := (1 : Int32)) hx hb0 dX7_init_91 rfl (lv_at hl 0 rfl) ?_
  refine lv_bipush (v := (6 : Int32)) hx hb0 dX7_init_92 (by decide) ?_
  refine lv_icmp_ge (tgt := 110) hx hb0 dX7_init_94 (by decide) (fun c9 => absurd c9 (by decide)) (fun c9 => ?_)
  refine lv_aload_n hx hb0 dX7_init_97 rfl (lv_at hl 1 rfl) ?_
  refine j_get (k := 6) (v := .ref q52) J hW zC5 0 rfl 6 (by decide) rfl zl_X7_31 rfl dX7_init_98 ?_
  refine lv_iload_n (x := (1 : Int32)) hx hb0 dX7_init_101 rfl (lv_at hl 0 rfl) ?_
  refine lv_iload_n (x := (1 : Int32)) hx hb0 dX7_init_102 rfl (lv_at hl 0 rfl) ?_
  refine j_iast J hW 6 5 rfl rfl (by unfold vp_in; decide) dX7_init_103 (fun H locs hW => ?_)
  have hW : zB D (va_A w9 s.heap.size) s _ _ [(h0, .inr (5, [.int 0, .ref q12, .ref q20, .ref q28, .ref q36, .ref q44, .ref q52, .int 0, .int 90, .int 30, .int 0, .int 0, .int 0])), (q12, .inl (c12, 8, .inl (fun _ => 0))), (q20, .inl (c20, 8, .inl (fun _ => 0))), (q28, .inl (c28, 8, .inl (fun _ => 0))), (q36, .inl (c36, 8, .inl (fun _ => 0))), (q44, .inl (c44, 8, .inl (fun _ => 0))), (q52, .inl (c52, 6, .inl (upd (upd (fun _ => 0) (Int32.toNatClampNeg 0) 0) (Int32.toNatClampNeg 1) 1)))] [(c12, .int), (c20, .int), (c28, .int), (c36, .int), (c44, .int), (c52, .int)] := hW
  refine lv_iinc (v := (2 : Int32)) (lv' := [(1, .int (2 : Int32)), (0, .ref h0)]) hx hb0 dX7_init_104 hl (k := 0) rfl (by decide) (by decide) rfl (fun ls hl => ?_)
  refine lv_goto (tgt := 91) hx hb0 dX7_init_107 (by decide) ?_
  refine lv_iload_n (x := (2 : Int32)) hx hb0 dX7_init_91 rfl (lv_at hl 0 rfl) ?_
  refine lv_bipush (v := (6 : Int32)) hx hb0 dX7_init_92 (by decide) ?_
  refine lv_icmp_ge (tgt := 110) hx hb0 dX7_init_94 (by decide) (fun c9 => absurd c9 (by decide)) (fun c9 => ?_)
  refine lv_aload_n hx hb0 dX7_init_97 rfl (lv_at hl 1 rfl) ?_
  refine j_get (k := 6) (v := .ref q52) J hW zC5 0 rfl 6 (by decide) rfl zl_X7_31 rfl dX7_init_98 ?_
  refine lv_iload_n (x := (2 : Int32)) hx hb0 dX7_init_101 rfl (lv_at hl 0 rfl) ?_
  refine lv_iload_n (x := (2 : Int32)) hx hb0 dX7_init_102 rfl (lv_at hl 0 rfl) ?_
  refine j_iast J hW 6 5 rfl rfl (by unfold vp_in; decide) dX7_init_103 (fun H locs hW => ?_)
  have hW : zB D (va_A w9 s.heap.size) s _ _ [(h0, .inr (5, [.int 0, .ref q12, .ref q20, .ref q28, .ref q36, .ref q44, .ref q52, .int 0, .int 90, .int 30, .int 0, .int 0, .int 0])), (q12, .inl (c12, 8, .inl (fun _ => 0))), (q20, .inl (c20, 8, .inl (fun _ => 0))), (q28, .inl (c28, 8, .inl (fun _ => 0))), (q36, .inl (c36, 8, .inl (fun _ => 0))), (q44, .inl (c44, 8, .inl (fun _ => 0))), (q52, .inl (c52, 6, .inl (upd (upd (upd (fun _ => 0) (Int32.toNatClampNeg 0) 0) (Int32.toNatClampNeg 1) 1) (Int32.toNatClampNeg 2) 2)))] [(c12, .int), (c20, .int), (c28, .int), (c36, .int), (c44, .int), (c52, .int)] := hW
  refine lv_iinc (v := (3 : Int32)) (lv' := [(1, .int (3 : Int32)), (0, .ref h0)]) hx hb0 dX7_init_104 hl (k := 0) rfl (by decide) (by decide) rfl (fun ls hl => ?_)
  refine lv_goto (tgt := 91) hx hb0 dX7_init_107 (by decide) ?_
  refine lv_iload_n (x := (3 : Int32)) hx hb0 dX7_init_91 rfl (lv_at hl 0 rfl) ?_
  refine lv_bipush (v := (6 : Int32)) hx hb0 dX7_init_92 (by decide) ?_
  refine lv_icmp_ge (tgt := 110) hx hb0 dX7_init_94 (by decide) (fun c9 => absurd c9 (by decide)) (fun c9 => ?_)
  refine lv_aload_n hx hb0 dX7_init_97 rfl (lv_at hl 1 rfl) ?_
  refine j_get (k := 6) (v := .ref q52) J hW zC5 0 rfl 6 (by decide) rfl zl_X7_31 rfl dX7_init_98 ?_
  refine lv_iload_n (x := (3 : Int32)) hx hb0 dX7_init_101 rfl (lv_at hl 0 rfl) ?_
  refine lv_iload_n (x := (3 : Int32)) hx hb0 dX7_init_102 rfl (lv_at hl 0 rfl) ?_
  refine j_iast J hW 6 5 rfl rfl (by unfold vp_in; decide) dX7_init_103 (fun H locs hW => ?_)
  have hW : zB D (va_A w9 s.heap.size) s _ _ [(h0, .inr (5, [.int 0, .ref q12, .ref q20, .ref q28, .ref q36, .ref q44, .ref q52, .int 0, .int 90, .int 30, .int 0, .int 0, .int 0])), (q12, .inl (c12, 8, .inl (fun _ => 0))), (q20, .inl (c20, 8, .inl (fun _ => 0))), (q28, .inl (c28, 8, .inl (fun _ => 0))), (q36, .inl (c36, 8, .inl (fun _ => 0))), (q44, .inl (c44, 8, .inl (fun _ => 0))), (q52, .inl (c52, 6, .inl (upd (upd (upd (upd (fun _ => 0) (Int32.toNatClampNeg 0) 0) (Int32.toNatClampNeg 1) 1) (Int32.toNatClampNeg 2) 2) (Int32.toNatClampNeg 3) 3)))] [(c12, .int), (c20, .int), (c28, .int), (c36, .int), (c44, .int), (c52, .int)] := hW
  refine lv_iinc (v := (4 : Int32)) (lv' := [(1, .int (4 : Int32)), (0, .ref h0)]) hx hb0 dX7_init_104 hl (k := 0) rfl (by decide) (by decide) rfl (fun ls hl => ?_)
  refine lv_goto (tgt := 91) hx hb0 dX7_init_107 (by decide) ?_
  refine lv_iload_n (x := (4 : Int32)) hx hb0 dX7_init_91 rfl (lv_at hl 0 rfl) ?_
  refine lv_bipush (v := (6 : Int32)) hx hb0 dX7_init_92 (by decide) ?_
  refine lv_icmp_ge (tgt := 110) hx hb0 dX7_init_94 (by decide) (fun c9 => absurd c9 (by decide)) (fun c9 => ?_)
  refine lv_aload_n hx hb0 dX7_init_97 rfl (lv_at hl 1 rfl) ?_
  refine j_get (k := 6) (v := .ref q52) J hW zC5 0 rfl 6 (by decide) rfl zl_X7_31 rfl dX7_init_98 ?_
  refine lv_iload_n (x := (4 : Int32)) hx hb0 dX7_init_101 rfl (lv_at hl 0 rfl) ?_
  refine lv_iload_n (x := (4 : Int32)) hx hb0 dX7_init_102 rfl (lv_at hl 0 rfl) ?_
  refine j_iast J hW 6 5 rfl rfl (by unfold vp_in; decide) dX7_init_103 (fun H locs hW => ?_)
  have hW : zB D (va_A w9 s.heap.size) s _ _ [(h0, .inr (5, [.int 0, .ref q12, .ref q20, .ref q28, .ref q36, .ref q44, .ref q52, .int 0, .int 90, .int 30, .int 0, .int 0, .int 0])), (q12, .inl (c12, 8, .inl (fun _ => 0))), (q20, .inl (c20, 8, .inl (fun _ => 0))), (q28, .inl (c28, 8, .inl (fun _ => 0))), (q36, .inl (c36, 8, .inl (fun _ => 0))), (q44, .inl (c44, 8, .inl (fun _ => 0))), (q52, .inl (c52, 6, .inl (upd (upd (upd (upd (upd (fun _ => 0) (Int32.toNatClampNeg 0) 0) (Int32.toNatClampNeg 1) 1) (Int32.toNatClampNeg 2) 2) (Int32.toNatClampNeg 3) 3) (Int32.toNatClampNeg 4) 4)))] [(c12, .int), (c20, .int), (c28, .int), (c36, .int), (c44, .int), (c52, .int)] := hW
  refine lv_iinc (v := (5 : Int32)) (lv' := [(1, .int (5 : Int32)), (0, .ref h0)]) hx hb0 dX7_init_104 hl (k := 0) rfl (by decide) (by decide) rfl (fun ls hl => ?_)
  refine lv_goto (tgt := 91) hx hb0 dX7_init_107 (by decide) ?_
  refine lv_iload_n (x := (5 : Int32)) hx hb0 dX7_init_91 rfl (lv_at hl 0 rfl) ?_
  refine lv_bipush (v := (6 : Int32)) hx hb0 dX7_init_92 (by decide) ?_
  refine lv_icmp_ge (tgt := 110) hx hb0 dX7_init_94 (by decide) (fun c9 => absurd c9 (by decide)) (fun c9 => ?_)
  refine lv_aload_n hx hb0 dX7_init_97 rfl (lv_at hl 1 rfl) ?_
  refine j_get (k := 6) (v := .ref q52) J hW zC5 0 rfl 6 (by decide) rfl zl_X7_31 rfl dX7_init_98 ?_
  refine lv_iload_n (x := (5 : Int32)) hx hb0 dX7_init_101 rfl (lv_at hl 0 rfl) ?_
  refine lv_iload_n (x := (5 : Int32)) hx hb0 dX7_init_102 rfl (lv_at hl 0 rfl) ?_
  refine j_iast J hW 6 5 rfl rfl (by unfold vp_in; decide) dX7_init_103 (fun H locs hW => ?_)
  have hW : zB D (va_A w9 s.heap.size) s _ _ [(h0, .inr (5, [.int 0, .ref q12, .ref q20, .ref q28, .ref q36, .ref q44, .ref q52, .int 0, .int 90, .int 30, .int 0, .int 0, .int 0])), (q12, .inl (c12, 8, .inl (fun _ => 0))), (q20, .inl (c20, 8, .inl (fun _ => 0))), (q28, .inl (c28, 8, .inl (fun _ => 0))), (q36, .inl (c36, 8, .inl (fun _ => 0))), (q44, .inl (c44, 8, .inl (fun _ => 0))), (q52, .inl (c52, 6, .inl (upd (upd (upd (upd (upd (upd (fun _ => 0) (Int32.toNatClampNeg 0) 0) (Int32.toNatClampNeg 1) 1) (Int32.toNatClampNeg 2) 2) (Int32.toNatClampNeg 3) 3) (Int32.toNatClampNeg 4) 4) (Int32.toNatClampNeg 5) 5)))] [(c12, .int), (c20, .int), (c28, .int), (c36, .int), (c44, .int), (c52, .int)] := hW
  refine lv_iinc (v := (6 : Int32)) (lv' := [(1, .int (6 : Int32)), (0, .ref h0)]) hx hb0 dX7_init_104 hl (k := 0) rfl (by decide) (by decide) rfl (fun ls hl => ?_)
  refine lv_goto (tgt := 91) hx hb0 dX7_init_107 (by decide) ?_
  refine lv_iload_n (x := (6 : Int32)) hx hb0 dX7_init_91 rfl (lv_at hl 0 rfl) ?_
  refine lv_bipush (v := (6 : Int32)) hx hb0 dX7_init_92 (by decide) ?_
  refine lv_icmp_ge (tgt := 110) hx hb0 dX7_init_94 (by decide) (fun c9 => ?_) (fun c9 => absurd (by decide) c9)
  refine W.widen (k := 6) (n := 46) (Nat.le_of_ble_eq_true rfl) (Nat.le_of_ble_eq_true rfl) ?_
  exact hret _ ls _ _ (fun k => ([h0, q12, q20, q28, q36, q44, q52] : List Nat).getD k 0, fun k => ([(c12), c12, c20, c28, c36, c44, c52] : List ClassId).getD k (c12)) dX7_init_110 rfl hW
set_option maxRecDepth 20000 in
theorem iX7 (l : Launch) (D : va_G) (h0 : Nat) : zIc (S := (Nat → Nat) × (Nat → ClassId)) l yX7_init cX7_init 2 rmX7_init D h0 [(h0, .inr (5, [.int 0, .null, .null, .null, .null, .null, .null, .int 0, .int 0, .int 0, .int 0, .int 0, .int 0]))] (fun u => u.1 0 = h0) (fun u => wX7 u.1 u.2) (fun u => tX7 u.2) 6 46 := by
  refine zIc_of (by decide +kernel) rfl (Nat.le_of_ble_eq_true rfl) ?_
  intro p e s m args below meth c J Q hret ls hl hW
  have hx := J.1.1; have hb0 := J.1.2.1
  have hl : lv_has ls 2 [(0, .ref h0)] := hl
  exact iX7_walk l D h0 [(h0, .inr (5, [.int 0, .null, .null, .null, .null, .null, .null, .int 0, .int 0, .int 0, .int 0, .int 0, .int 0]))] J hret ls hl s.heap [] hW
abbrev rmX5_init : Room := { frames := 1, cells := 3, slots := 180, locals := 12 }
def wX5 (ad : Nat → Nat) (cy : Nat → ClassId) : va_W := [(ad 0, .inr (3, [.ref (ad 1), .int 0, .ref (ad 2), .ref (ad 3), .int 0])), (ad 1, .inl (cy 1, 60, .inl (fun _ => 0))), (ad 2, .inl (cy 2, 60, .inl (fun _ => 0))), (ad 3, .inl (cy 3, 60, .inl (fun _ => 0)))]
def tX5 (cy : Nat → ClassId) : List (ClassId × FieldType) := [(cy 1, .int), (cy 2, .int), (cy 3, .int)]
set_option maxRecDepth 20000 in
set_option maxHeartbeats 4000000 in
theorem iX5_walk (l : Launch) (D : va_G) (h0 : Nat) (w9 : va_W) {p : Program} {e : Env} {s : State} {m : MethodId} {args : Array Value} {below : List Frame} {meth : Method} {c : Code} {Q : State → Prop} (J : zJ p s m args meth c cX5_init 1 RX5 (va_A w9 s.heap.size)) (hret : ∀ (pc : Nat) (ls : Array Slot) (H : Heap) (locs : List Loc) (u : (Nat → Nat) × (Nat → ClassId)), decode cX5_init pc = .ok (.return_, 1) → u.1 0 = h0 → zB D (va_A w9 s.heap.size) s H locs (wX5 u.1 u.2) (tX5 u.2) → W p l e rmX5_init s m args below meth c H locs 3 180 Q (F0 m pc ls [])) (ls : Array Slot) (hl : lv_has ls 1 [(0, .ref h0)]) (H : Heap) (locs : List Loc) (hW : zB D (va_A w9 s.heap.size) s H locs [(h0, .inr (3, [.null, .int 0, .null, .null, .int 0]))] []) : W p l e rmX5_init s m args below meth c H locs 0 0 Q (F0 m 0 ls []) := by
  have hx := J.1.1; have hb0 := J.1.2.1
  refine lv_aload_n hx hb0 dX5_init_0 rfl (lv_at hl 0 rfl) ?_
  refine j_obj J zl_X5_3 hl.1 (Nat.le_of_ble_eq_true rfl) (Nat.le_of_ble_eq_true rfl) dX5_init_1 ?_
  refine lv_aload_n hx hb0 dX5_init_4 rfl (lv_at hl 0 rfl) ?_
  refine lv_bipush (v := (60 : Int32)) hx hb0 dX5_init_5 (by decide) ?_
  refine j_newa (atype := .int) (a0 := (60, .inl (fun _ => 0))) (ty := .int) J hW zw_acint rfl (fun _ => rfl) (by decide) (by decide) (by decide) (Nat.le_of_ble_eq_true rfl) (Nat.le_of_ble_eq_true rfl) dX5_init_7 (fun q7 c7 H hW => ?_)
  have hW : zB D (va_A w9 s.heap.size) s _ _ [(h0, .inr (3, [.null, .int 0, .null, .null, .int 0])), (q7, .inl (c7, 60, .inl (fun _ => 0)))] [(c7, .int)] := hW
  refine j_putF (ty := (.array .int)) J hW zC3 0 rfl 0 (by decide) rfl zl_X5_11 rfl rfl (by decide +kernel) rfl rfl (Nat.le_of_ble_eq_true rfl) dX5_init_9 (fun H locs hW => ?_)
  have hW : zB D (va_A w9 s.heap.size) s _ _ [(h0, .inr (3, [.ref q7, .int 0, .null, .null, .int 0])), (q7, .inl (c7, 60, .inl (fun _ => 0)))] [(c7, .int)] := hW
  refine lv_aload_n hx hb0 dX5_init_12 rfl (lv_at hl 0 rfl) ?_
  refine lv_iconst (v := (0 : Int32)) hx hb0 dX5_init_13 (by decide) ?_
  refine j_put (ty := .int) J hW zC3 0 rfl 1 (by decide) rfl zl_X5_15 rfl (by decide +kernel) rfl rfl (Nat.le_of_ble_eq_true rfl) dX5_init_14 (fun H locs hW => ?_)
  have hW : zB D (va_A w9 s.heap.size) s _ _ [(h0, .inr (3, [.ref q7, .int 0, .null, .null, .int 0])), (q7, .inl (c7, 60, .inl (fun _ => 0)))] [(c7, .int)] := hW
  refine lv_aload_n hx hb0 dX5_init_17 rfl (lv_at hl 0 rfl) ?_
  refine lv_bipush (v := (60 : Int32)) hx hb0 dX5_init_18 (by decide) ?_
  refine j_newa (atype := .int) (a0 := (60, .inl (fun _ => 0))) (ty := .int) J hW zw_acint rfl (fun _ => rfl) (by decide) (by decide) (by decide) (Nat.le_of_ble_eq_true rfl) (Nat.le_of_ble_eq_true rfl) dX5_init_20 (fun q20 c20 H hW => ?_)
  have hW : zB D (va_A w9 s.heap.size) s _ _ [(h0, .inr (3, [.ref q7, .int 0, .null, .null, .int 0])), (q7, .inl (c7, 60, .inl (fun _ => 0))), (q20, .inl (c20, 60, .inl (fun _ => 0)))] [(c7, .int), (c20, .int)] := hW
  refine j_putF (ty := (.array .int)) J hW zC3 0 rfl 2 (by decide) rfl zl_X5_19 rfl rfl (by decide +kernel) rfl rfl (Nat.le_of_ble_eq_true rfl) dX5_init_22 (fun H locs hW => ?_)
  have hW : zB D (va_A w9 s.heap.size) s _ _ [(h0, .inr (3, [.ref q7, .int 0, .ref q20, .null, .int 0])), (q7, .inl (c7, 60, .inl (fun _ => 0))), (q20, .inl (c20, 60, .inl (fun _ => 0)))] [(c7, .int), (c20, .int)] := hW
  refine lv_aload_n hx hb0 dX5_init_25 rfl (lv_at hl 0 rfl) ?_
  refine lv_bipush (v := (60 : Int32)) hx hb0 dX5_init_26 (by decide) ?_
  refine j_newa (atype := .int) (a0 := (60, .inl (fun _ => 0))) (ty := .int) J hW zw_acint rfl (fun _ => rfl) (by decide) (by decide) (by decide) (Nat.le_of_ble_eq_true rfl) (Nat.le_of_ble_eq_true rfl) dX5_init_28 (fun q28 c28 H hW => ?_)
  have hW : zB D (va_A w9 s.heap.size) s _ _ [(h0, .inr (3, [.ref q7, .int 0, .ref q20, .null, .int 0])), (q7, .inl (c7, 60, .inl (fun _ => 0))), (q20, .inl (c20, 60, .inl (fun _ => 0))), (q28, .inl (c28, 60, .inl (fun _ => 0)))] [(c7, .int), (c20, .int), (c28, .int)] := hW
  refine j_putF (ty := (.array .int)) J hW zC3 0 rfl 3 (by decide) rfl zl_X5_22 rfl rfl (by decide +kernel) rfl rfl (Nat.le_of_ble_eq_true rfl) dX5_init_30 (fun H locs hW => ?_)
  have hW : zB D (va_A w9 s.heap.size) s _ _ [(h0, .inr (3, [.ref q7, .int 0, .ref q20, .ref q28, .int 0])), (q7, .inl (c7, 60, .inl (fun _ => 0))), (q20, .inl (c20, 60, .inl (fun _ => 0))), (q28, .inl (c28, 60, .inl (fun _ => 0)))] [(c7, .int), (c20, .int), (c28, .int)] := hW
  refine lv_aload_n hx hb0 dX5_init_33 rfl (lv_at hl 0 rfl) ?_
  refine lv_iconst (v := (0 : Int32)) hx hb0 dX5_init_34 (by decide) ?_
  refine j_put (ty := .int) J hW zC3 0 rfl 4 (by decide) rfl zl_X5_25 rfl (by decide +kernel) rfl rfl (Nat.le_of_ble_eq_true rfl) dX5_init_35 (fun H locs hW => ?_)
  have hW : zB D (va_A w9 s.heap.size) s _ _ [(h0, .inr (3, [.ref q7, .int 0, .ref q20, .ref q28, .int 0])), (q7, .inl (c7, 60, .inl (fun _ => 0))), (q20, .inl (c20, 60, .inl (fun _ => 0))), (q28, .inl (c28, 60, .inl (fun _ => 0)))] [(c7, .int), (c20, .int), (c28, .int)] := hW
  refine W.widen (k := 3) (n := 180) (Nat.le_of_ble_eq_true rfl) (Nat.le_of_ble_eq_true rfl) ?_
  exact hret _ ls _ _ (fun k => ([h0, q7, q20, q28] : List Nat).getD k 0, fun k => ([(c7), c7, c20, c28] : List ClassId).getD k (c7)) dX5_init_38 rfl hW
set_option maxRecDepth 20000 in
theorem iX5 (l : Launch) (D : va_G) (h0 : Nat) : zIc (S := (Nat → Nat) × (Nat → ClassId)) l yX5_init cX5_init 1 rmX5_init D h0 [(h0, .inr (3, [.null, .int 0, .null, .null, .int 0]))] (fun u => u.1 0 = h0) (fun u => wX5 u.1 u.2) (fun u => tX5 u.2) 3 180 := by
  refine zIc_of (by decide +kernel) rfl (Nat.le_of_ble_eq_true rfl) ?_
  intro p e s m args below meth c J Q hret ls hl hW
  have hx := J.1.1; have hb0 := J.1.2.1
  have hl : lv_has ls 1 [(0, .ref h0)] := hl
  exact iX5_walk l D h0 [(h0, .inr (3, [.null, .int 0, .null, .null, .int 0]))] J hret ls hl s.heap [] hW
abbrev rmX0_init : Room := { frames := 1, cells := 2, slots := 512, locals := 12 }
def wX0 (ad : Nat → Nat) (cy : Nat → ClassId) : va_W := [(ad 0, .inr (0, [.ref (ad 1), .ref (ad 2), .int 0])), (ad 1, .inl (cy 1, 256, .inl (fun _ => 0))), (ad 2, .inl (cy 2, 256, .inl (fun _ => 0)))]
def tX0 (cy : Nat → ClassId) : List (ClassId × FieldType) := [(cy 1, .int), (cy 2, .int)]
set_option maxRecDepth 20000 in
set_option maxHeartbeats 4000000 in
theorem iX0_walk (l : Launch) (D : va_G) (h0 : Nat) (w9 : va_W) {p : Program} {e : Env} {s : State} {m : MethodId} {args : Array Value} {below : List Frame} {meth : Method} {c : Code} {Q : State → Prop} (J : zJ p s m args meth c cX0_init 1 RX0 (va_A w9 s.heap.size)) (hret : ∀ (pc : Nat) (ls : Array Slot) (H : Heap) (locs : List Loc) (u : (Nat → Nat) × (Nat → ClassId)), decode cX0_init pc = .ok (.return_, 1) → u.1 0 = h0 → zB D (va_A w9 s.heap.size) s H locs (wX0 u.1 u.2) (tX0 u.2) → W p l e rmX0_init s m args below meth c H locs 2 512 Q (F0 m pc ls [])) (ls : Array Slot) (hl : lv_has ls 1 [(0, .ref h0)]) (H : Heap) (locs : List Loc) (hW : zB D (va_A w9 s.heap.size) s H locs [(h0, .inr (0, [.null, .null, .int 0]))] []) : W p l e rmX0_init s m args below meth c H locs 0 0 Q (F0 m 0 ls []) := by
  have hx := J.1.1; have hb0 := J.1.2.1
  refine lv_aload_n hx hb0 dX0_init_0 rfl (lv_at hl 0 rfl) ?_
  refine j_obj J zl_X0_3 hl.1 (Nat.le_of_ble_eq_true rfl) (Nat.le_of_ble_eq_true rfl) dX0_init_1 ?_
  refine lv_aload_n hx hb0 dX0_init_4 rfl (lv_at hl 0 rfl) ?_
  refine lv_sipush (v := (256 : Int32)) hx hb0 dX0_init_5 (by decide) ?_
  refine j_newa (atype := .int) (a0 := (256, .inl (fun _ => 0))) (ty := .int) J hW zw_acint rfl (fun _ => rfl) (by decide) (by decide) (by decide) (Nat.le_of_ble_eq_true rfl) (Nat.le_of_ble_eq_true rfl) dX0_init_8 (fun q8 c8 H hW => ?_)
  have hW : zB D (va_A w9 s.heap.size) s _ _ [(h0, .inr (0, [.null, .null, .int 0])), (q8, .inl (c8, 256, .inl (fun _ => 0)))] [(c8, .int)] := hW
  refine j_putF (ty := (.array .int)) J hW zC0 0 rfl 0 (by decide) rfl zl_X0_9 rfl rfl (by decide +kernel) rfl rfl (Nat.le_of_ble_eq_true rfl) dX0_init_10 (fun H locs hW => ?_)
  have hW : zB D (va_A w9 s.heap.size) s _ _ [(h0, .inr (0, [.ref q8, .null, .int 0])), (q8, .inl (c8, 256, .inl (fun _ => 0)))] [(c8, .int)] := hW
  refine lv_aload_n hx hb0 dX0_init_13 rfl (lv_at hl 0 rfl) ?_
  refine lv_sipush (v := (256 : Int32)) hx hb0 dX0_init_14 (by decide) ?_
  refine j_newa (atype := .int) (a0 := (256, .inl (fun _ => 0))) (ty := .int) J hW zw_acint rfl (fun _ => rfl) (by decide) (by decide) (by decide) (Nat.le_of_ble_eq_true rfl) (Nat.le_of_ble_eq_true rfl) dX0_init_17 (fun q17 c17 H hW => ?_)
  have hW : zB D (va_A w9 s.heap.size) s _ _ [(h0, .inr (0, [.ref q8, .null, .int 0])), (q8, .inl (c8, 256, .inl (fun _ => 0))), (q17, .inl (c17, 256, .inl (fun _ => 0)))] [(c8, .int), (c17, .int)] := hW
  refine j_putF (ty := (.array .int)) J hW zC0 0 rfl 1 (by decide) rfl zl_X0_15 rfl rfl (by decide +kernel) rfl rfl (Nat.le_of_ble_eq_true rfl) dX0_init_19 (fun H locs hW => ?_)
  have hW : zB D (va_A w9 s.heap.size) s _ _ [(h0, .inr (0, [.ref q8, .ref q17, .int 0])), (q8, .inl (c8, 256, .inl (fun _ => 0))), (q17, .inl (c17, 256, .inl (fun _ => 0)))] [(c8, .int), (c17, .int)] := hW
  refine lv_aload_n hx hb0 dX0_init_22 rfl (lv_at hl 0 rfl) ?_
  refine lv_iconst (v := (0 : Int32)) hx hb0 dX0_init_23 (by decide) ?_
  refine j_put (ty := .int) J hW zC0 0 rfl 2 (by decide) rfl zl_X0_18 rfl (by decide +kernel) rfl rfl (Nat.le_of_ble_eq_true rfl) dX0_init_24 (fun H locs hW => ?_)
  have hW : zB D (va_A w9 s.heap.size) s _ _ [(h0, .inr (0, [.ref q8, .ref q17, .int 0])), (q8, .inl (c8, 256, .inl (fun _ => 0))), (q17, .inl (c17, 256, .inl (fun _ => 0)))] [(c8, .int), (c17, .int)] := hW
  refine W.widen (k := 2) (n := 512) (Nat.le_of_ble_eq_true rfl) (Nat.le_of_ble_eq_true rfl) ?_
  exact hret _ ls _ _ (fun k => ([h0, q8, q17] : List Nat).getD k 0, fun k => ([(c8), c8, c17] : List ClassId).getD k (c8)) dX0_init_27 rfl hW
set_option maxRecDepth 20000 in
theorem iX0 (l : Launch) (D : va_G) (h0 : Nat) : zIc (S := (Nat → Nat) × (Nat → ClassId)) l yX0_init cX0_init 1 rmX0_init D h0 [(h0, .inr (0, [.null, .null, .int 0]))] (fun u => u.1 0 = h0) (fun u => wX0 u.1 u.2) (fun u => tX0 u.2) 2 512 := by
  refine zIc_of (by decide +kernel) rfl (Nat.le_of_ble_eq_true rfl) ?_
  intro p e s m args below meth c J Q hret ls hl hW
  have hx := J.1.1; have hb0 := J.1.2.1
  have hl : lv_has ls 1 [(0, .ref h0)] := hl
  exact iX0_walk l D h0 [(h0, .inr (0, [.null, .null, .int 0]))] J hret ls hl s.heap [] hW
abbrev rmX4_init : Room := { frames := 1, cells := 1, slots := 16, locals := 12 }
def wX4 (ad : Nat → Nat) (cy : Nat → ClassId) : va_W := [(ad 0, .inr (2, [.ref (ad 1)])), (ad 1, .inl (cy 1, 16, .inl (fun _ => 0)))]
def tX4 (cy : Nat → ClassId) : List (ClassId × FieldType) := [(cy 1, .int)]
set_option maxRecDepth 20000 in
set_option maxHeartbeats 4000000 in
theorem iX4_walk (l : Launch) (D : va_G) (h0 : Nat) (w9 : va_W) {p : Program} {e : Env} {s : State} {m : MethodId} {args : Array Value} {below : List Frame} {meth : Method} {c : Code} {Q : State → Prop} (J : zJ p s m args meth c cX4_init 1 RX4 (va_A w9 s.heap.size)) (hret : ∀ (pc : Nat) (ls : Array Slot) (H : Heap) (locs : List Loc) (u : (Nat → Nat) × (Nat → ClassId)), decode cX4_init pc = .ok (.return_, 1) → u.1 0 = h0 → zB D (va_A w9 s.heap.size) s H locs (wX4 u.1 u.2) (tX4 u.2) → W p l e rmX4_init s m args below meth c H locs 1 16 Q (F0 m pc ls [])) (ls : Array Slot) (hl : lv_has ls 1 [(0, .ref h0)]) (H : Heap) (locs : List Loc) (hW : zB D (va_A w9 s.heap.size) s H locs [(h0, .inr (2, [.null]))] []) : W p l e rmX4_init s m args below meth c H locs 0 0 Q (F0 m 0 ls []) := by
  have hx := J.1.1; have hb0 := J.1.2.1
  refine lv_aload_n hx hb0 dX4_init_0 rfl (lv_at hl 0 rfl) ?_
  refine j_obj J zl_X4_3 hl.1 (Nat.le_of_ble_eq_true rfl) (Nat.le_of_ble_eq_true rfl) dX4_init_1 ?_
  refine lv_aload_n hx hb0 dX4_init_4 rfl (lv_at hl 0 rfl) ?_
  refine lv_bipush (v := (16 : Int32)) hx hb0 dX4_init_5 (by decide) ?_
  refine j_newa (atype := .int) (a0 := (16, .inl (fun _ => 0))) (ty := .int) J hW zw_acint rfl (fun _ => rfl) (by decide) (by decide) (by decide) (Nat.le_of_ble_eq_true rfl) (Nat.le_of_ble_eq_true rfl) dX4_init_7 (fun q7 c7 H hW => ?_)
  have hW : zB D (va_A w9 s.heap.size) s _ _ [(h0, .inr (2, [.null])), (q7, .inl (c7, 16, .inl (fun _ => 0)))] [(c7, .int)] := hW
  refine j_putF (ty := (.array .int)) J hW zC2 0 rfl 0 (by decide) rfl zl_X4_9 rfl rfl (by decide +kernel) rfl rfl (Nat.le_of_ble_eq_true rfl) dX4_init_9 (fun H locs hW => ?_)
  have hW : zB D (va_A w9 s.heap.size) s _ _ [(h0, .inr (2, [.ref q7])), (q7, .inl (c7, 16, .inl (fun _ => 0)))] [(c7, .int)] := hW
  refine W.widen (k := 1) (n := 16) (Nat.le_of_ble_eq_true rfl) (Nat.le_of_ble_eq_true rfl) ?_
  exact hret _ ls _ _ (fun k => ([h0, q7] : List Nat).getD k 0, fun k => ([(c7), c7] : List ClassId).getD k (c7)) dX4_init_12 rfl hW
set_option maxRecDepth 20000 in
theorem iX4 (l : Launch) (D : va_G) (h0 : Nat) : zIc (S := (Nat → Nat) × (Nat → ClassId)) l yX4_init cX4_init 1 rmX4_init D h0 [(h0, .inr (2, [.null]))] (fun u => u.1 0 = h0) (fun u => wX4 u.1 u.2) (fun u => tX4 u.2) 1 16 := by
  refine zIc_of (by decide +kernel) rfl (Nat.le_of_ble_eq_true rfl) ?_
  intro p e s m args below meth c J Q hret ls hl hW
  have hx := J.1.1; have hb0 := J.1.2.1
  have hl : lv_has ls 1 [(0, .ref h0)] := hl
  exact iX4_walk l D h0 [(h0, .inr (2, [.null]))] J hret ls hl s.heap [] hW
abbrev rmX2_init : Room := { frames := 2, cells := 7, slots := 59, locals := 33 }
def wX2 (ad : Nat → Nat) (cy : Nat → ClassId) : va_W := [(ad 0, .inr (1, [.ref (ad 1), .int (-6), .int (-6), .int (-6), .int 0])), (ad 1, .inr (5, [.int 0, .ref (ad 2), .ref (ad 3), .ref (ad 4), .ref (ad 5), .ref (ad 6), .ref (ad 7), .int 0, .int 90, .int 30, .int 0, .int 0, .int 0])), (ad 2, .inl (cy 2, 8, .inl (fun _ => 0))), (ad 3, .inl (cy 3, 8, .inl (fun _ => 0))), (ad 4, .inl (cy 4, 8, .inl (fun _ => 0))), (ad 5, .inl (cy 5, 8, .inl (fun _ => 0))), (ad 6, .inl (cy 6, 8, .inl (fun _ => 0))), (ad 7, .inl (cy 7, 6, .inl (upd (upd (upd (upd (upd (upd (fun _ => 0) (Int32.toNatClampNeg 0) 0) (Int32.toNatClampNeg 1) 1) (Int32.toNatClampNeg 2) 2) (Int32.toNatClampNeg 3) 3) (Int32.toNatClampNeg 4) 4) (Int32.toNatClampNeg 5) 5)))]
def tX2 (cy : Nat → ClassId) : List (ClassId × FieldType) := [(cy 2, .int), (cy 3, .int), (cy 4, .int), (cy 5, .int), (cy 6, .int), (cy 7, .int)]
set_option maxRecDepth 20000 in
set_option maxHeartbeats 4000000 in
theorem iX2_walk (l : Launch) (D : va_G) (h0 : Nat) (w9 : va_W) {p : Program} {e : Env} {s : State} {m : MethodId} {args : Array Value} {below : List Frame} {meth : Method} {c : Code} {Q : State → Prop} (J : zJ p s m args meth c cX2_init 1 RX2 (va_A w9 s.heap.size)) (hret : ∀ (pc : Nat) (ls : Array Slot) (H : Heap) (locs : List Loc) (u : (Nat → Nat) × (Nat → ClassId)), decode cX2_init pc = .ok (.return_, 1) → u.1 0 = h0 → zB D (va_A w9 s.heap.size) s H locs (wX2 u.1 u.2) (tX2 u.2) → W p l e rmX2_init s m args below meth c H locs 7 59 Q (F0 m pc ls [])) (ls : Array Slot) (hl : lv_has ls 1 [(0, .ref h0)]) (H : Heap) (locs : List Loc) (hW : zB D (va_A w9 s.heap.size) s H locs [(h0, .inr (1, [.null, .int 0, .int 0, .int 0, .int 0]))] []) : W p l e rmX2_init s m args below meth c H locs 0 0 Q (F0 m 0 ls []) := by
  have hx := J.1.1; have hb0 := J.1.2.1
  refine lv_aload_n hx hb0 dX2_init_0 rfl (lv_at hl 0 rfl) ?_
  refine j_obj J zl_X2_3 hl.1 (Nat.le_of_ble_eq_true rfl) (Nat.le_of_ble_eq_true rfl) dX2_init_1 ?_
  refine lv_aload_n hx hb0 dX2_init_4 rfl (lv_at hl 0 rfl) ?_
  refine j_new (fs := [.int 0, .null, .null, .null, .null, .null, .null, .int 0, .int 0, .int 0, .int 0, .int 0, .int 0]) J hW zC5.1 zC5.2.1 tyX7 tyX7_ok zd_X2_9 zx_X7 zc_X7_init.2.1 (fun j hj => by match j, hj with | 0, _ => rfl | 1, _ => rfl | 2, _ => rfl | 3, _ => rfl | 4, _ => rfl | 5, _ => rfl | 6, _ => rfl | 7, _ => rfl | 8, _ => rfl | 9, _ => rfl | 10, _ => rfl | 11, _ => rfl | 12, _ => rfl | k + 13, h => omega) (Nat.le_of_ble_eq_true rfl) (Nat.le_of_ble_eq_true rfl) dX2_init_5 (fun q5 H hW => ?_)
  have hW : zB D (va_A w9 s.heap.size) s _ _ [(h0, .inr (1, [.null, .int 0, .int 0, .int 0, .int 0])), (q5, .inr (5, [.int 0, .null, .null, .null, .null, .null, .null, .int 0, .int 0, .int 0, .int 0, .int 0, .int 0]))] [] := hW
  refine lv_dup hx hb0 dX2_init_8 rfl ?_
  refine j_callN (wr := [(h0, .inr (1, [.null, .int 0, .int 0, .int 0, .int 0]))]) J hW [1] [0] rfl rfl rfl rfl (by decide) zc_X7_init zi_X7_init zn_X2_11 rfl rfl ⟨rfl, rfl⟩ ⟨Nat.le_of_ble_eq_true rfl, Nat.le_of_ble_eq_true rfl⟩ (iX7 l D q5) hl.1 (Nat.le_of_ble_eq_true rfl) ⟨Nat.le_of_ble_eq_true rfl, Nat.le_of_ble_eq_true rfl⟩ dX2_init_9 (fun u H locs hu hW1 => ?_)
  obtain ⟨ad1, cy1⟩ := u
  replace hu : ad1 0 = q5 := hu
  subst hu
  have hW : zB D (va_A w9 s.heap.size) s _ _ [(h0, .inr (1, [.null, .int 0, .int 0, .int 0, .int 0])), (ad1 0, .inr (5, [.int 0, .ref (ad1 1), .ref (ad1 2), .ref (ad1 3), .ref (ad1 4), .ref (ad1 5), .ref (ad1 6), .int 0, .int 90, .int 30, .int 0, .int 0, .int 0])), (ad1 1, .inl (cy1 1, 8, .inl (fun _ => 0))), (ad1 2, .inl (cy1 2, 8, .inl (fun _ => 0))), (ad1 3, .inl (cy1 3, 8, .inl (fun _ => 0))), (ad1 4, .inl (cy1 4, 8, .inl (fun _ => 0))), (ad1 5, .inl (cy1 5, 8, .inl (fun _ => 0))), (ad1 6, .inl (cy1 6, 6, .inl (upd (upd (upd (upd (upd (upd (fun _ => 0) (Int32.toNatClampNeg 0) 0) (Int32.toNatClampNeg 1) 1) (Int32.toNatClampNeg 2) 2) (Int32.toNatClampNeg 3) 3) (Int32.toNatClampNeg 4) 4) (Int32.toNatClampNeg 5) 5)))] [(cy1 1, .int), (cy1 2, .int), (cy1 3, .int), (cy1 4, .int), (cy1 5, .int), (cy1 6, .int)] := hW1
  refine j_putF (ty := (.object "FlakePost$Yard")) J hW zC1 0 rfl 0 (by decide) rfl zl_X2_12 rfl rfl (by decide +kernel) rfl rfl (Nat.le_of_ble_eq_true rfl) dX2_init_12 (fun H locs hW => ?_)
  have hW : zB D (va_A w9 s.heap.size) s _ _ [(h0, .inr (1, [.ref (ad1 0), .int 0, .int 0, .int 0, .int 0])), (ad1 0, .inr (5, [.int 0, .ref (ad1 1), .ref (ad1 2), .ref (ad1 3), .ref (ad1 4), .ref (ad1 5), .ref (ad1 6), .int 0, .int 90, .int 30, .int 0, .int 0, .int 0])), (ad1 1, .inl (cy1 1, 8, .inl (fun _ => 0))), (ad1 2, .inl (cy1 2, 8, .inl (fun _ => 0))), (ad1 3, .inl (cy1 3, 8, .inl (fun _ => 0))), (ad1 4, .inl (cy1 4, 8, .inl (fun _ => 0))), (ad1 5, .inl (cy1 5, 8, .inl (fun _ => 0))), (ad1 6, .inl (cy1 6, 6, .inl (upd (upd (upd (upd (upd (upd (fun _ => 0) (Int32.toNatClampNeg 0) 0) (Int32.toNatClampNeg 1) 1) (Int32.toNatClampNeg 2) 2) (Int32.toNatClampNeg 3) 3) (Int32.toNatClampNeg 4) 4) (Int32.toNatClampNeg 5) 5)))] [(cy1 1, .int), (cy1 2, .int), (cy1 3, .int), (cy1 4, .int), (cy1 5, .int), (cy1 6, .int)] := hW
  refine lv_aload_n hx hb0 dX2_init_15 rfl (lv_at hl 0 rfl) ?_
  refine lv_bipush (v := (-6 : Int32)) hx hb0 dX2_init_16 (by decide) ?_
  refine j_put (ty := .int) J hW zC1 0 rfl 1 (by decide) rfl zl_X2_18 rfl (by decide +kernel) rfl rfl (Nat.le_of_ble_eq_true rfl) dX2_init_18 (fun H locs hW => ?_)
  have hW : zB D (va_A w9 s.heap.size) s _ _ [(h0, .inr (1, [.ref (ad1 0), .int (-6), .int 0, .int 0, .int 0])), (ad1 0, .inr (5, [.int 0, .ref (ad1 1), .ref (ad1 2), .ref (ad1 3), .ref (ad1 4), .ref (ad1 5), .ref (ad1 6), .int 0, .int 90, .int 30, .int 0, .int 0, .int 0])), (ad1 1, .inl (cy1 1, 8, .inl (fun _ => 0))), (ad1 2, .inl (cy1 2, 8, .inl (fun _ => 0))), (ad1 3, .inl (cy1 3, 8, .inl (fun _ => 0))), (ad1 4, .inl (cy1 4, 8, .inl (fun _ => 0))), (ad1 5, .inl (cy1 5, 8, .inl (fun _ => 0))), (ad1 6, .inl (cy1 6, 6, .inl (upd (upd (upd (upd (upd (upd (fun _ => 0) (Int32.toNatClampNeg 0) 0) (Int32.toNatClampNeg 1) 1) (Int32.toNatClampNeg 2) 2) (Int32.toNatClampNeg 3) 3) (Int32.toNatClampNeg 4) 4) (Int32.toNatClampNeg 5) 5)))] [(cy1 1, .int), (cy1 2, .int), (cy1 3, .int), (cy1 4, .int), (cy1 5, .int), (cy1 6, .int)] := hW
  refine lv_aload_n hx hb0 dX2_init_21 rfl (lv_at hl 0 rfl) ?_
  refine lv_bipush (v := (-6 : Int32)) hx hb0 dX2_init_22 (by decide) ?_
  refine j_put (ty := .int) J hW zC1 0 rfl 2 (by decide) rfl zl_X2_22 rfl (by decide +kernel) rfl rfl (Nat.le_of_ble_eq_true rfl) dX2_init_24 (fun H locs hW => ?_)
  have hW : zB D (va_A w9 s.heap.size) s _ _ [(h0, .inr (1, [.ref (ad1 0), .int (-6), .int (-6), .int 0, .int 0])), (ad1 0, .inr (5, [.int 0, .ref (ad1 1), .ref (ad1 2), .ref (ad1 3), .ref (ad1 4), .ref (ad1 5), .ref (ad1 6), .int 0, .int 90, .int 30, .int 0, .int 0, .int 0])), (ad1 1, .inl (cy1 1, 8, .inl (fun _ => 0))), (ad1 2, .inl (cy1 2, 8, .inl (fun _ => 0))), (ad1 3, .inl (cy1 3, 8, .inl (fun _ => 0))), (ad1 4, .inl (cy1 4, 8, .inl (fun _ => 0))), (ad1 5, .inl (cy1 5, 8, .inl (fun _ => 0))), (ad1 6, .inl (cy1 6, 6, .inl (upd (upd (upd (upd (upd (upd (fun _ => 0) (Int32.toNatClampNeg 0) 0) (Int32.toNatClampNeg 1) 1) (Int32.toNatClampNeg 2) 2) (Int32.toNatClampNeg 3) 3) (Int32.toNatClampNeg 4) 4) (Int32.toNatClampNeg 5) 5)))] [(cy1 1, .int), (cy1 2, .int), (cy1 3, .int), (cy1 4, .int), (cy1 5, .int), (cy1 6, .int)] := hW
  refine lv_aload_n hx hb0 dX2_init_27 rfl (lv_at hl 0 rfl) ?_
  refine lv_bipush (v := (-6 : Int32)) hx hb0 dX2_init_28 (by decide) ?_
  refine j_put (ty := .int) J hW zC1 0 rfl 3 (by decide) rfl zl_X2_25 rfl (by decide +kernel) rfl rfl (Nat.le_of_ble_eq_true rfl) dX2_init_30 (fun H locs hW => ?_)
  have hW : zB D (va_A w9 s.heap.size) s _ _ [(h0, .inr (1, [.ref (ad1 0), .int (-6), .int (-6), .int (-6), .int 0])), (ad1 0, .inr (5, [.int 0, .ref (ad1 1), .ref (ad1 2), .ref (ad1 3), .ref (ad1 4), .ref (ad1 5), .ref (ad1 6), .int 0, .int 90, .int 30, .int 0, .int 0, .int 0])), (ad1 1, .inl (cy1 1, 8, .inl (fun _ => 0))), (ad1 2, .inl (cy1 2, 8, .inl (fun _ => 0))), (ad1 3, .inl (cy1 3, 8, .inl (fun _ => 0))), (ad1 4, .inl (cy1 4, 8, .inl (fun _ => 0))), (ad1 5, .inl (cy1 5, 8, .inl (fun _ => 0))), (ad1 6, .inl (cy1 6, 6, .inl (upd (upd (upd (upd (upd (upd (fun _ => 0) (Int32.toNatClampNeg 0) 0) (Int32.toNatClampNeg 1) 1) (Int32.toNatClampNeg 2) 2) (Int32.toNatClampNeg 3) 3) (Int32.toNatClampNeg 4) 4) (Int32.toNatClampNeg 5) 5)))] [(cy1 1, .int), (cy1 2, .int), (cy1 3, .int), (cy1 4, .int), (cy1 5, .int), (cy1 6, .int)] := hW
  refine lv_aload_n hx hb0 dX2_init_33 rfl (lv_at hl 0 rfl) ?_
  refine lv_iconst (v := (0 : Int32)) hx hb0 dX2_init_34 (by decide) ?_
  refine j_put (ty := .int) J hW zC1 0 rfl 4 (by decide) rfl zl_X2_28 rfl (by decide +kernel) rfl rfl (Nat.le_of_ble_eq_true rfl) dX2_init_35 (fun H locs hW => ?_)
  have hW : zB D (va_A w9 s.heap.size) s _ _ [(h0, .inr (1, [.ref (ad1 0), .int (-6), .int (-6), .int (-6), .int 0])), (ad1 0, .inr (5, [.int 0, .ref (ad1 1), .ref (ad1 2), .ref (ad1 3), .ref (ad1 4), .ref (ad1 5), .ref (ad1 6), .int 0, .int 90, .int 30, .int 0, .int 0, .int 0])), (ad1 1, .inl (cy1 1, 8, .inl (fun _ => 0))), (ad1 2, .inl (cy1 2, 8, .inl (fun _ => 0))), (ad1 3, .inl (cy1 3, 8, .inl (fun _ => 0))), (ad1 4, .inl (cy1 4, 8, .inl (fun _ => 0))), (ad1 5, .inl (cy1 5, 8, .inl (fun _ => 0))), (ad1 6, .inl (cy1 6, 6, .inl (upd (upd (upd (upd (upd (upd (fun _ => 0) (Int32.toNatClampNeg 0) 0) (Int32.toNatClampNeg 1) 1) (Int32.toNatClampNeg 2) 2) (Int32.toNatClampNeg 3) 3) (Int32.toNatClampNeg 4) 4) (Int32.toNatClampNeg 5) 5)))] [(cy1 1, .int), (cy1 2, .int), (cy1 3, .int), (cy1 4, .int), (cy1 5, .int), (cy1 6, .int)] := hW
  refine W.widen (k := 7) (n := 59) (Nat.le_of_ble_eq_true rfl) (Nat.le_of_ble_eq_true rfl) ?_
  exact hret _ ls _ _ (fun k => ([h0, ad1 0, ad1 1, ad1 2, ad1 3, ad1 4, ad1 5, ad1 6] : List Nat).getD k 0, fun k => ([(cy1 1), (cy1 1), cy1 1, cy1 2, cy1 3, cy1 4, cy1 5, cy1 6] : List ClassId).getD k (cy1 1)) dX2_init_38 rfl hW
set_option maxRecDepth 20000 in
theorem iX2 (l : Launch) (D : va_G) (h0 : Nat) : zIc (S := (Nat → Nat) × (Nat → ClassId)) l yX2_init cX2_init 1 rmX2_init D h0 [(h0, .inr (1, [.null, .int 0, .int 0, .int 0, .int 0]))] (fun u => u.1 0 = h0) (fun u => wX2 u.1 u.2) (fun u => tX2 u.2) 7 59 := by
  refine zIc_of (by decide +kernel) rfl (Nat.le_of_ble_eq_true rfl) ?_
  intro p e s m args below meth c J Q hret ls hl hW
  have hx := J.1.1; have hb0 := J.1.2.1
  have hl : lv_has ls 1 [(0, .ref h0)] := hl
  exact iX2_walk l D h0 [(h0, .inr (1, [.null, .int 0, .int 0, .int 0, .int 0]))] J hret ls hl s.heap [] hW
