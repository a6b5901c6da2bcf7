/-! the walks, by program -/
abbrev rmJ7_fill_53178 : Room := { frames := 0, cells := 0, slots := 0, locals := 0 }
set_option maxRecDepth 20000 in
set_option maxHeartbeats 4000000 in
theorem mJ7_fill_53178_5 {p : Program} {l : Launch} {e : Env} {s : State} {m : MethodId} {args : Array Value} {below : List Frame} {meth : Method} {c : Code} {cells slots : Nat} {Q : State → Prop} {D : va_G} {cy : Nat → ClassId} {ad : Nat → Nat} {A : Nat → Prop} (X : zCx p rmJ7_fill_53178 s m args c cells slots cJ7_fill_53178 4 RJ7 D cy ad A) {r : Nat} {n : Nat} (hr : zRow r n) (post : Mm → Ml → Prop) (hret : zRv p l e rmJ7_fill_53178 s m args below meth c cells slots Q cJ7_fill_53178 D cy ad A post) : ∀ (j9 : Nat) (M : Mm) (L : Ml) (v1 : Int32) (v2 : Int32) (v3 : Int32) (H : Heap) (locs : List Loc) (ls : Array Slot), wlJ7_fill_53178_5 r n post j9 (M, L, v1, v2, v3) → zWd D cy ad A s H locs M L → lv_has ls 4 [(0, .ref (ad r)), (1, .int v1), (2, .int v2), (3, .int v3)] → W p l e rmJ7_fill_53178 s m args below meth c H locs cells slots Q (F0 m 5 ls []) := by
  have hx := X.1.1; have hb0 := X.1.2.1; have hts := X.1.2.2.2.2
  intro j9
  induction j9 with
  | zero => intro M L v1 v2 v3 H locs ls hw; exact hw.elim
  | succ j9 ih =>
    obtain ⟨K5, hKe⟩ : ∃ K : Mm → Ml → Int32 → Int32 → Int32 → Prop, K = fun M L v1 v2 v3 => wlJ7_fill_53178_5 r n post j9 (M, L, v1, v2, v3) := ⟨_, rfl⟩
    have hK5 : ∀ (M : Mm) (L : Ml) (v1 : Int32) (v2 : Int32) (v3 : Int32) (H : Heap) (locs : List Loc) (ls : Array Slot), K5 M L v1 v2 v3 → zWd D cy ad A s H locs M L → lv_has ls 4 [(0, .ref (ad r)), (1, .int v1), (2, .int v2), (3, .int v3)] → W p l e rmJ7_fill_53178 s m args below meth c H locs cells slots Q (F0 m 5 ls []) := by intro M L v1 v2 v3 H locs ls hw; rw [hKe] at hw; exact ih M L v1 v2 v3 H locs ls hw
    intro M L v1 v2 v3 H locs ls hw hW hl
    have hw : wpJ7_fill_53178_5 r n post K5 M L v1 v2 v3 := by rw [hKe]; exact hw
    clear ih
    unfold wpJ7_fill_53178_5 at hw
    refine lv_iload_n hx hb0 dJ7_fill_53178_5 rfl (lv_at hl 2 rfl) ?_
    refine lv_iload_n hx hb0 dJ7_fill_53178_6 rfl (lv_at hl 3 rfl) ?_
    refine lv_icmp_ge (tgt := 20) hx hb0 dJ7_fill_53178_7 (by decide) (fun c_7 => ?_) (fun c_7 => ?_)
    · replace hw := hw.1 c_7
      exact hret _ ls _ _ M L dJ7_fill_53178_20 hw hW
    · replace hw := hw.2 c_7
      refine lv_aload_n hx hb0 dJ7_fill_53178_10 rfl (lv_at hl 0 rfl) ?_
      refine lv_iload_n hx hb0 dJ7_fill_53178_11 rfl (lv_at hl 2 rfl) ?_
      refine lv_iload_n hx hb0 dJ7_fill_53178_12 rfl (lv_at hl 1 rfl) ?_
      obtain ⟨g_13, hw⟩ := hw
      refine z_iast X hW hr g_13 dJ7_fill_53178_13 (fun M_13 H_13 locs_13 e_13 hW => ?_)
      replace hw := hw M_13 e_13
      obtain ⟨a_14, e_14⟩ : ∃ y : Int32, y = v2 + (1 : Int32) := ⟨_, rfl⟩
      replace hw := hw a_14 e_14
      refine lv_iinc (v := a_14) (lv' := [(2, .int a_14), (0, .ref (ad r)), (1, .int v1), (3, .int v3)]) hx hb0 dJ7_fill_53178_14 hl (k := 2) rfl (by rw [e_14]; rfl) (by decide) rfl (fun ls hl => ?_)
      refine lv_goto (tgt := 5) hx hb0 dJ7_fill_53178_17 (by decide) ?_
      exact hK5 M_13 L v1 a_14 v3 _ _ ls hw hW (lv_sub hl [1, 2, 0, 3] rfl)
set_option maxRecDepth 20000 in
set_option maxHeartbeats 4000000 in
theorem mJ7_fill_53178 {p : Program} {l : Launch} {e : Env} {s : State} {m : MethodId} {args : Array Value} {below : List Frame} {meth : Method} {c : Code} {cells slots : Nat} {Q : State → Prop} {D : va_G} {cy : Nat → ClassId} {ad : Nat → Nat} {A : Nat → Prop} (X : zCx p rmJ7_fill_53178 s m args c cells slots cJ7_fill_53178 4 RJ7 D cy ad A) {r : Nat} {n : Nat} (hr : zRow r n) (post : Mm → Ml → Prop) (hret : zRv p l e rmJ7_fill_53178 s m args below meth c cells slots Q cJ7_fill_53178 D cy ad A post) : ∀ (M : Mm) (L : Ml) (x1 : Int32) (H : Heap) (locs : List Loc) (ls : Array Slot), wpJ7_fill_53178 r n x1 M L post → zWd D cy ad A s H locs M L → lv_has ls 4 [(0, .ref (ad r)), (1, .int x1)] → W p l e rmJ7_fill_53178 s m args below meth c H locs cells slots Q (F0 m 0 ls []) := by
  have hx := X.1.1; have hb0 := X.1.2.1; have hts := X.1.2.2.2.2
  intro M L x1 H locs ls hw hW hl
  unfold wpJ7_fill_53178 at hw
  refine lv_iconst (v := (0 : Int32)) hx hb0 dJ7_fill_53178_0 (by decide) ?_
  refine lv_istore_n (lv' := [(2, .int (0 : Int32)), (0, .ref (ad r)), (1, .int x1)]) hx hb0 dJ7_fill_53178_1 rfl hl (by decide) rfl (fun ls hl => ?_)
  refine lv_aload_n hx hb0 dJ7_fill_53178_2 rfl (lv_at hl 1 rfl) ?_
  refine z_alen X hW hr dJ7_fill_53178_3 ?_
  refine lv_topi (fun a_4 e_4 => ?_)
  replace hw := hw a_4 e_4
  refine lv_istore_n (lv' := [(3, .int a_4), (2, .int (0 : Int32)), (0, .ref (ad r)), (1, .int x1)]) hx hb0 dJ7_fill_53178_4 rfl hl (by decide) rfl (fun ls hl => ?_)
  obtain ⟨n_5, hw⟩ := hw
  exact mJ7_fill_53178_5 X hr post hret n_5 M L x1 (0 : Int32) a_4 _ _ ls hw hW (lv_sub hl [2, 3, 1, 0] rfl)
theorem kJ7_fill_53178 (l : Launch) (D : va_G) (cy : Nat → ClassId) (ad : Nat → Nat) (hi : zInj ad) {r : Nat} {n : Nat} (hr : zRow r n) (x1 : Int32) : zMv l yJ7_fill_53178 (.code yJ7_fill_53178 cJ7_fill_53178 4 none :: zG) rmJ7_fill_53178 D cy ad [.ref (ad r), .int x1] (wpJ7_fill_53178 r n x1) :=
  zMv_of (by decide +kernel) (Nat.le_of_ble_eq_true rfl) hi (fun X M L post _ hret ls hl hw hW => mJ7_fill_53178 X hr post hret M L x1 _ _ ls hw hW hl)
abbrev rmX0_reach : Room := { frames := 0, cells := 0, slots := 0, locals := 0 }
set_option maxRecDepth 20000 in
set_option maxHeartbeats 4000000 in
theorem mX0_reach_48 {p : Program} {l : Launch} {e : Env} {s : State} {m : MethodId} {args : Array Value} {below : List Frame} {meth : Method} {c : Code} {cells slots : Nat} {Q : State → Prop} {D : va_G} {cy : Nat → ClassId} {ad : Nat → Nat} {A : Nat → Prop} (X : zCx p rmX0_reach s m args c cells slots cX0_reach 3 RX0 D cy ad A) (post : Mm → Ml → Prop) (hret : zRv p l e rmX0_reach s m args below meth c cells slots Q cX0_reach D cy ad A post) : ∀ (M : Mm) (L : Ml) (H : Heap) (locs : List Loc) (ls : Array Slot), wpX0_reach_48 post M L → zWd D cy ad A s H locs M L → lv_has ls 3 [] → W p l e rmX0_reach s m args below meth c H locs cells slots Q (F0 m 48 ls []) := by
  have hx := X.1.1; have hb0 := X.1.2.1; have hts := X.1.2.2.2.2
  intro M L H locs ls hw hW hl
  unfold wpX0_reach_48 at hw
  exact hret _ ls _ _ M L dX0_reach_48 hw hW
set_option maxRecDepth 20000 in
set_option maxHeartbeats 4000000 in
theorem mX0_reach {p : Program} {l : Launch} {e : Env} {s : State} {m : MethodId} {args : Array Value} {below : List Frame} {meth : Method} {c : Code} {cells slots : Nat} {Q : State → Prop} {D : va_G} {cy : Nat → ClassId} {ad : Nat → Nat} {A : Nat → Prop} (X : zCx p rmX0_reach s m args c cells slots cX0_reach 3 RX0 D cy ad A) (post : Mm → Ml → Prop) (hret : zRv p l e rmX0_reach s m args below meth c cells slots Q cX0_reach D cy ad A post) : ∀ (M : Mm) (L : Ml) (x1 : Int32) (x2 : Int32) (H : Heap) (locs : List Loc) (ls : Array Slot), wpX0_reach x1 x2 M L post → zWd D cy ad A s H locs M L → lv_has ls 3 [(0, .ref (ad 7)), (1, .int x1), (2, .int x2)] → W p l e rmX0_reach s m args below meth c H locs cells slots Q (F0 m 0 ls []) := by
  have hx := X.1.1; have hb0 := X.1.2.1; have hts := X.1.2.2.2.2
  intro M L x1 x2 H locs ls hw hW hl
  unfold wpX0_reach at hw
  refine lv_aload_n hx hb0 dX0_reach_0 rfl (lv_at hl 0 rfl) ?_
  refine z_getR (k2 := 8) X hW zC0 zR_7_0 (by decide) rfl zl_X0_9 dX0_reach_1 ?_
  refine lv_iload_n hx hb0 dX0_reach_4 rfl (lv_at hl 1 rfl) ?_
  obtain ⟨g_5, hw⟩ := hw
  refine z_iald X hW zI_8 g_5 dX0_reach_5 ?_
  refine lv_bipush (v := (-6 : Int32)) hx hb0 dX0_reach_6 (by decide) ?_
  refine lv_icmp_ne (tgt := 48) hx hb0 dX0_reach_8 (by decide) (fun c_8 => ?_) (fun c_8 => ?_)
  · replace hw := hw.1 c_8
    exact mX0_reach_48 X post hret M L _ _ ls hw hW (lv_sub hl [] rfl)
  · replace hw := hw.2 c_8
    refine lv_aload_n hx hb0 dX0_reach_11 rfl (lv_at hl 0 rfl) ?_
    refine z_getI X hW zC0 zF_7_2 (by decide) rfl zl_X0_18 dX0_reach_12 ?_
    refine lv_sipush (v := (256 : Int32)) hx hb0 dX0_reach_15 (by decide) ?_
    refine lv_icmp_ge (tgt := 48) hx hb0 dX0_reach_18 (by decide) (fun c_18 => ?_) (fun c_18 => ?_)
    · replace hw := hw.1 c_18
      exact mX0_reach_48 X post hret M L _ _ ls hw hW (lv_sub hl [] rfl)
    · replace hw := hw.2 c_18
      refine lv_aload_n hx hb0 dX0_reach_21 rfl (lv_at hl 0 rfl) ?_
      refine z_getR (k2 := 8) X hW zC0 zR_7_0 (by decide) rfl zl_X0_9 dX0_reach_22 ?_
      refine lv_iload_n hx hb0 dX0_reach_25 rfl (lv_at hl 1 rfl) ?_
      refine lv_iload_n hx hb0 dX0_reach_26 rfl (lv_at hl 2 rfl) ?_
      obtain ⟨g_27, hw⟩ := hw
      refine z_iast X hW zI_8 g_27 dX0_reach_27 (fun M_27 H_27 locs_27 e_27 hW => ?_)
      replace hw := hw M_27 e_27
      refine lv_aload_n hx hb0 dX0_reach_28 rfl (lv_at hl 0 rfl) ?_
      refine z_getR (k2 := 9) X hW zC0 zR_7_1 (by decide) rfl zl_X0_15 dX0_reach_29 ?_
      refine lv_aload_n hx hb0 dX0_reach_32 rfl (lv_at hl 0 rfl) ?_
      refine z_getI X hW zC0 zF_7_2 (by decide) rfl zl_X0_18 dX0_reach_33 ?_
      refine lv_iload_n hx hb0 dX0_reach_36 rfl (lv_at hl 1 rfl) ?_
      obtain ⟨g_37, hw⟩ := hw
      refine z_iast X hW zI_9 g_37 dX0_reach_37 (fun M_37 H_37 locs_37 e_37 hW => ?_)
      replace hw := hw M_37 e_37
      refine lv_aload_n hx hb0 dX0_reach_38 rfl (lv_at hl 0 rfl) ?_
      refine lv_dup hx hb0 dX0_reach_39 rfl ?_
      refine z_getI X hW zC0 zF_7_2 (by decide) rfl zl_X0_18 dX0_reach_40 ?_
      refine lv_iconst (v := (1 : Int32)) hx hb0 dX0_reach_43 (by decide) ?_
      refine lv_iadd hx hb0 dX0_reach_44 ?_
      refine z_put (ty := .int) X hW zC0 zF_7_2 (by decide) rfl zl_X0_18 rfl (by decide +kernel) rfl rfl dX0_reach_45 (fun M_45 H_45 locs_45 e_45 hW => ?_)
      replace hw := hw M_45 e_45
      exact mX0_reach_48 X post hret M_45 L _ _ ls hw hW (lv_sub hl [] rfl)
theorem kX0_reach (l : Launch) (D : va_G) (cy : Nat → ClassId) (ad : Nat → Nat) (hi : zInj ad) (x1 : Int32) (x2 : Int32) : zMv l yX0_reach (.code yX0_reach cX0_reach 3 none :: zG) rmX0_reach D cy ad [.ref (ad 7), .int x1, .int x2] (wpX0_reach x1 x2) :=
  zMv_of (by decide +kernel) (Nat.le_of_ble_eq_true rfl) hi (fun X M L post _ hret ls hl hw hW => mX0_reach X post hret M L x1 x2 _ _ ls hw hW hl)
abbrev rmX3_around : Room := { frames := 0, cells := 0, slots := 0, locals := 0 }
set_option maxRecDepth 20000 in
set_option maxHeartbeats 4000000 in
theorem mX3_around {p : Program} {l : Launch} {e : Env} {s : State} {m : MethodId} {args : Array Value} {below : List Frame} {meth : Method} {c : Code} {cells slots : Nat} {Q : State → Prop} {D : va_G} {cy : Nat → ClassId} {ad : Nat → Nat} {A : Nat → Prop} (X : zCx p rmX3_around s m args c cells slots cX3_around 2 RX3 D cy ad A) (post : Int32 → Mm → Ml → Prop) (hret : zRi p l e rmX3_around s m args below meth c cells slots Q cX3_around D cy ad A .int post) : ∀ (M : Mm) (L : Ml) (x1 : Int32) (x2 : Int32) (H : Heap) (locs : List Loc) (ls : Array Slot), wpX3_around x1 x2 M L post → zWd D cy ad A s H locs M L → lv_has ls 2 [(0, .int x1), (1, .int x2)] → W p l e rmX3_around s m args below meth c H locs cells slots Q (F0 m 0 ls []) := by
  have hx := X.1.1; have hb0 := X.1.2.1; have hts := X.1.2.2.2.2
  intro M L x1 x2 H locs ls hw hW hl
  unfold wpX3_around at hw
  refine lv_iload_n hx hb0 dX3_around_0 rfl (lv_at hl 0 rfl) ?_
  refine lv_iconst (v := (1 : Int32)) hx hb0 dX3_around_1 (by decide) ?_
  refine lv_ishl hx hb0 dX3_around_2 ?_
  refine lv_iload_n hx hb0 dX3_around_3 rfl (lv_at hl 1 rfl) ?_
  refine lv_ishr hx hb0 dX3_around_4 ?_
  refine lv_bipush (v := (7 : Int32)) hx hb0 dX3_around_5 (by decide) ?_
  refine lv_iand hx hb0 dX3_around_7 ?_
  exact hret _ ls _ _ (((x1 <<< ((1 : Int32) &&& 31)) >>> (x2 &&& 31)) &&& (7 : Int32)) M L dX3_around_8 rfl hw hW
theorem kX3_around (l : Launch) (D : va_G) (cy : Nat → ClassId) (ad : Nat → Nat) (hi : zInj ad) (x1 : Int32) (x2 : Int32) : zMi l yX3_around (.code yX3_around cX3_around 2 (some .int) :: zG) rmX3_around D cy ad [.int x1, .int x2] (wpX3_around x1 x2) :=
  zMi_of (by decide +kernel) (Nat.le_of_ble_eq_true rfl) hi (fun X M L post _ hret ls hl hw hW => mX3_around X post hret M L x1 x2 _ _ ls hw hW hl)
abbrev rmX8_bit : Room := { frames := 0, cells := 0, slots := 0, locals := 0 }
set_option maxRecDepth 20000 in
set_option maxHeartbeats 4000000 in
theorem mX8_bit {p : Program} {l : Launch} {e : Env} {s : State} {m : MethodId} {args : Array Value} {below : List Frame} {meth : Method} {c : Code} {cells slots : Nat} {Q : State → Prop} {D : va_G} {cy : Nat → ClassId} {ad : Nat → Nat} {A : Nat → Prop} (X : zCx p rmX8_bit s m args c cells slots cX8_bit 2 RX8 D cy ad A) (post : Int32 → Mm → Ml → Prop) (hret : zRi p l e rmX8_bit s m args below meth c cells slots Q cX8_bit D cy ad A .int post) : ∀ (M : Mm) (L : Ml) (x1 : Int32) (x2 : Int32) (H : Heap) (locs : List Loc) (ls : Array Slot), wpX8_bit x1 x2 M L post → zWd D cy ad A s H locs M L → lv_has ls 2 [(0, .int x1), (1, .int x2)] → W p l e rmX8_bit s m args below meth c H locs cells slots Q (F0 m 0 ls []) := by
  have hx := X.1.1; have hb0 := X.1.2.1; have hts := X.1.2.2.2.2
  intro M L x1 x2 H locs ls hw hW hl
  unfold wpX8_bit at hw
  refine lv_iload_n hx hb0 dX8_bit_0 rfl (lv_at hl 0 rfl) ?_
  refine lv_iload_n hx hb0 dX8_bit_1 rfl (lv_at hl 1 rfl) ?_
  refine lv_ishr hx hb0 dX8_bit_2 ?_
  refine lv_iconst (v := (1 : Int32)) hx hb0 dX8_bit_3 (by decide) ?_
  refine lv_iand hx hb0 dX8_bit_4 ?_
  exact hret _ ls _ _ ((x1 >>> (x2 &&& 31)) &&& (1 : Int32)) M L dX8_bit_5 rfl hw hW
theorem kX8_bit (l : Launch) (D : va_G) (cy : Nat → ClassId) (ad : Nat → Nat) (hi : zInj ad) (x1 : Int32) (x2 : Int32) : zMi l yX8_bit (.code yX8_bit cX8_bit 2 (some .int) :: zG) rmX8_bit D cy ad [.int x1, .int x2] (wpX8_bit x1 x2) :=
  zMi_of (by decide +kernel) (Nat.le_of_ble_eq_true rfl) hi (fun X M L post _ hret ls hl hw hW => mX8_bit X post hret M L x1 x2 _ _ ls hw hW hl)
abbrev rmX3_grown : Room := { frames := 1, cells := 0, slots := 0, locals := 21 }
set_option maxRecDepth 20000 in
set_option maxHeartbeats 4000000 in
theorem mX3_grown_4 {p : Program} {l : Launch} {e : Env} {s : State} {m : MethodId} {args : Array Value} {below : List Frame} {meth : Method} {c : Code} {cells slots : Nat} {Q : State → Prop} {D : va_G} {cy : Nat → ClassId} {ad : Nat → Nat} {A : Nat → Prop} (X : zCx p rmX3_grown s m args c cells slots cX3_grown 4 RX3 D cy ad A) (post : Int32 → Mm → Ml → Prop) (hret : zRi p l e rmX3_grown s m args below meth c cells slots Q cX3_grown D cy ad A .int post) : ∀ (j9 : Nat) (M : Mm) (L : Ml) (v0 : Int32) (v1 : Int32) (v2 : Int32) (v3 : Int32) (H : Heap) (locs : List Loc) (ls : Array Slot), wlX3_grown_4 post j9 (M, L, v0, v1, v2, v3) → zWd D cy ad A s H locs M L → lv_has ls 4 [(0, .int v0), (1, .int v1), (2, .int v2), (3, .int v3)] → W p l e rmX3_grown s m args below meth c H locs cells slots Q (F0 m 4 ls []) := by
  have hx := X.1.1; have hb0 := X.1.2.1; have hts := X.1.2.2.2.2
  intro j9
  induction j9 with
  | zero => intro M L v0 v1 v2 v3 H locs ls hw; exact hw.elim
  | succ j9 ih =>
    obtain ⟨K4, hKe⟩ : ∃ K : Mm → Ml → Int32 → Int32 → Int32 → Int32 → Prop, K = fun M L v0 v1 v2 v3 => wlX3_grown_4 post j9 (M, L, v0, v1, v2, v3) := ⟨_, rfl⟩
    have hK4 : ∀ (M : Mm) (L : Ml) (v0 : Int32) (v1 : Int32) (v2 : Int32) (v3 : Int32) (H : Heap) (locs : List Loc) (ls : Array Slot), K4 M L v0 v1 v2 v3 → zWd D cy ad A s H locs M L → lv_has ls 4 [(0, .int v0), (1, .int v1), (2, .int v2), (3, .int v3)] → W p l e rmX3_grown s m args below meth c H locs cells slots Q (F0 m 4 ls []) := by intro M L v0 v1 v2 v3 H locs ls hw; rw [hKe] at hw; exact ih M L v0 v1 v2 v3 H locs ls hw
    intro M L v0 v1 v2 v3 H locs ls hw hW hl
    have hw : wpX3_grown_4 post K4 M L v0 v1 v2 v3 := by rw [hKe]; exact hw
    clear ih
    unfold wpX3_grown_4 at hw
    refine lv_iload_n hx hb0 dX3_grown_4 rfl (lv_at hl 3 rfl) ?_
    refine lv_bipush (v := (8 : Int32)) hx hb0 dX3_grown_5 (by decide) ?_
    refine lv_icmp_ge (tgt := 30) hx hb0 dX3_grown_7 (by decide) (fun c_7 => ?_) (fun c_7 => ?_)
    · replace hw := hw.1 c_7
      refine lv_iload_n hx hb0 dX3_grown_30 rfl (lv_at hl 2 rfl) ?_
      exact hret _ ls _ _ v2 M L dX3_grown_31 rfl hw hW
    · replace hw := hw.2 c_7
      refine lv_iload_n hx hb0 dX3_grown_10 rfl (lv_at hl 2 rfl) ?_
      refine lv_iload_n hx hb0 dX3_grown_11 rfl (lv_at hl 1 rfl) ?_
      refine lv_iload_n hx hb0 dX3_grown_12 rfl (lv_at hl 0 rfl) ?_
      refine lv_iload_n hx hb0 dX3_grown_13 rfl (lv_at hl 3 rfl) ?_
      refine z_Si X zc_X3_around zt_X3_around zl_X3_9 rfl ⟨rfl, rfl⟩ ⟨Nat.le_of_ble_eq_true rfl, Nat.le_of_ble_eq_true rfl⟩ (kX3_around l D cy ad X.2.2.2.1 v0 v3) hW hw hl.1 rfl rfl (Nat.le_of_ble_eq_true rfl) dX3_grown_14 (fun r_14 M_14 L_14 H_14 locs_14 hw hW => ?_)
      refine z_SNi X zc_X8_bit zt_X8_bit zn_X3_15 rfl ⟨rfl, rfl⟩ ⟨Nat.le_of_ble_eq_true rfl, Nat.le_of_ble_eq_true rfl⟩ (kX8_bit l D cy ad X.2.2.2.1 v1 r_14) hW hw hl.1 rfl rfl (Nat.le_of_ble_eq_true rfl) dX3_grown_17 (fun r_17 M_17 L_17 H_17 locs_17 hw hW => ?_)
      refine lv_iload_n hx hb0 dX3_grown_20 rfl (lv_at hl 3 rfl) ?_
      refine lv_ishl hx hb0 dX3_grown_21 ?_
      refine lv_ior hx hb0 dX3_grown_22 ?_
      refine lv_topi (fun a_23 e_23 => ?_)
      replace hw := hw a_23 e_23
      refine lv_istore_n (lv' := [(2, .int a_23), (0, .int v0), (1, .int v1), (3, .int v3)]) hx hb0 dX3_grown_23 rfl hl (by decide) rfl (fun ls hl => ?_)
      obtain ⟨a_24, e_24⟩ : ∃ y : Int32, y = v3 + (1 : Int32) := ⟨_, rfl⟩
      replace hw := hw a_24 e_24
      refine lv_iinc (v := a_24) (lv' := [(3, .int a_24), (2, .int a_23), (0, .int v0), (1, .int v1)]) hx hb0 dX3_grown_24 hl (k := 3) rfl (by rw [e_24]; rfl) (by decide) rfl (fun ls hl => ?_)
      refine lv_goto (tgt := 4) hx hb0 dX3_grown_27 (by decide) ?_
      exact hK4 M_17 L_17 v0 v1 a_23 a_24 _ _ ls hw hW (lv_sub hl [2, 3, 1, 0] rfl)
set_option maxRecDepth 20000 in
set_option maxHeartbeats 4000000 in
theorem mX3_grown {p : Program} {l : Launch} {e : Env} {s : State} {m : MethodId} {args : Array Value} {below : List Frame} {meth : Method} {c : Code} {cells slots : Nat} {Q : State → Prop} {D : va_G} {cy : Nat → ClassId} {ad : Nat → Nat} {A : Nat → Prop} (X : zCx p rmX3_grown s m args c cells slots cX3_grown 4 RX3 D cy ad A) (post : Int32 → Mm → Ml → Prop) (hret : zRi p l e rmX3_grown s m args below meth c cells slots Q cX3_grown D cy ad A .int post) : ∀ (M : Mm) (L : Ml) (x1 : Int32) (x2 : Int32) (H : Heap) (locs : List Loc) (ls : Array Slot), wpX3_grown x1 x2 M L post → zWd D cy ad A s H locs M L → lv_has ls 4 [(0, .int x1), (1, .int x2)] → W p l e rmX3_grown s m args below meth c H locs cells slots Q (F0 m 0 ls []) := by
  have hx := X.1.1; have hb0 := X.1.2.1; have hts := X.1.2.2.2.2
  intro M L x1 x2 H locs ls hw hW hl
  unfold wpX3_grown at hw
  refine lv_iconst (v := (0 : Int32)) hx hb0 dX3_grown_0 (by decide) ?_
  refine lv_istore_n (lv' := [(2, .int (0 : Int32)), (0, .int x1), (1, .int x2)]) hx hb0 dX3_grown_1 rfl hl (by decide) rfl (fun ls hl => ?_)
  refine lv_iconst (v := (0 : Int32)) hx hb0 dX3_grown_2 (by decide) ?_
  refine lv_istore_n (lv' := [(3, .int (0 : Int32)), (2, .int (0 : Int32)), (0, .int x1), (1, .int x2)]) hx hb0 dX3_grown_3 rfl hl (by decide) rfl (fun ls hl => ?_)
  obtain ⟨n_4, hw⟩ := hw
  exact mX3_grown_4 X post hret n_4 M L x1 x2 (0 : Int32) (0 : Int32) _ _ ls hw hW (lv_sub hl [2, 3, 1, 0] rfl)
theorem kX3_grown (l : Launch) (D : va_G) (cy : Nat → ClassId) (ad : Nat → Nat) (hi : zInj ad) (x1 : Int32) (x2 : Int32) : zMi l yX3_grown (.code yX3_grown cX3_grown 4 (some .int) :: zG) rmX3_grown D cy ad [.int x1, .int x2] (wpX3_grown x1 x2) :=
  zMi_of (by decide +kernel) (Nat.le_of_ble_eq_true rfl) hi (fun X M L post _ hret ls hl hw hW => mX3_grown X post hret M L x1 x2 _ _ ls hw hW hl)
abbrev rmX0_fewestAirs : Room := { frames := 2, cells := 0, slots := 0, locals := 44 }
set_option maxRecDepth 20000 in
set_option maxHeartbeats 4000000 in
theorem mX0_fewestAirs_105 {p : Program} {l : Launch} {e : Env} {s : State} {m : MethodId} {args : Array Value} {below : List Frame} {meth : Method} {c : Code} {cells slots : Nat} {Q : State → Prop} {D : va_G} {cy : Nat → ClassId} {ad : Nat → Nat} {A : Nat → Prop} (X : zCx p rmX0_fewestAirs s m args c cells slots cX0_fewestAirs 7 RX0 D cy ad A) (post : Int32 → Mm → Ml → Prop) (hret : zRi p l e rmX0_fewestAirs s m args below meth c cells slots Q cX0_fewestAirs D cy ad A .int post) : ∀ (M : Mm) (L : Ml) (v2 : Int32) (H : Heap) (locs : List Loc) (ls : Array Slot), wpX0_fewestAirs_105 post M L v2 → zWd D cy ad A s H locs M L → lv_has ls 7 [(0, .ref (ad 7)), (2, .int v2)] → W p l e rmX0_fewestAirs s m args below meth c H locs cells slots Q (F0 m 105 ls []) := by
  have hx := X.1.1; have hb0 := X.1.2.1; have hts := X.1.2.2.2.2
  intro M L v2 H locs ls hw hW hl
  unfold wpX0_fewestAirs_105 at hw
  refine lv_aload_n hx hb0 dX0_fewestAirs_105 rfl (lv_at hl 0 rfl) ?_
  refine z_getR (k2 := 8) X hW zC0 zR_7_0 (by decide) rfl zl_X0_9 dX0_fewestAirs_106 ?_
  refine lv_iload_n hx hb0 dX0_fewestAirs_109 rfl (lv_at hl 1 rfl) ?_
  obtain ⟨g_110, hw⟩ := hw
  refine z_iald X hW zI_8 g_110 dX0_fewestAirs_110 ?_
  exact hret _ ls _ _ (M 8 v2.toNatClampNeg) M L dX0_fewestAirs_111 rfl hw hW
set_option maxRecDepth 20000 in
set_option maxHeartbeats 4000000 in
theorem mX0_fewestAirs_23 {p : Program} {l : Launch} {e : Env} {s : State} {m : MethodId} {args : Array Value} {below : List Frame} {meth : Method} {c : Code} {cells slots : Nat} {Q : State → Prop} {D : va_G} {cy : Nat → ClassId} {ad : Nat → Nat} {A : Nat → Prop} (X : zCx p rmX0_fewestAirs s m args c cells slots cX0_fewestAirs 7 RX0 D cy ad A) (post : Int32 → Mm → Ml → Prop) (hret : zRi p l e rmX0_fewestAirs s m args below meth c cells slots Q cX0_fewestAirs D cy ad A .int post) : ∀ (j9 : Nat) (M : Mm) (L : Ml) (v2 : Int32) (v3 : Int32) (v4 : Int32) (v5 : Int32) (H : Heap) (locs : List Loc) (ls : Array Slot), wlX0_fewestAirs_23 post j9 (M, L, v2, v3, v4, v5) → zWd D cy ad A s H locs M L → lv_has ls 7 [(0, .ref (ad 7)), (2, .int v2), (3, .int v3), (4, .int v4), (5, .int v5)] → W p l e rmX0_fewestAirs s m args below meth c H locs cells slots Q (F0 m 23 ls []) := by
  have hx := X.1.1; have hb0 := X.1.2.1; have hts := X.1.2.2.2.2
  intro j9
  induction j9 with
  | zero => intro M L v2 v3 v4 v5 H locs ls hw; exact hw.elim
  | succ j9 ih =>
    obtain ⟨K23, hKe⟩ : ∃ K : Mm → Ml → Int32 → Int32 → Int32 → Int32 → Prop, K = fun M L v2 v3 v4 v5 => wlX0_fewestAirs_23 post j9 (M, L, v2, v3, v4, v5) := ⟨_, rfl⟩
    have hK23 : ∀ (M : Mm) (L : Ml) (v2 : Int32) (v3 : Int32) (v4 : Int32) (v5 : Int32) (H : Heap) (locs : List Loc) (ls : Array Slot), K23 M L v2 v3 v4 v5 → zWd D cy ad A s H locs M L → lv_has ls 7 [(0, .ref (ad 7)), (2, .int v2), (3, .int v3), (4, .int v4), (5, .int v5)] → W p l e rmX0_fewestAirs s m args below meth c H locs cells slots Q (F0 m 23 ls []) := by intro M L v2 v3 v4 v5 H locs ls hw; rw [hKe] at hw; exact ih M L v2 v3 v4 v5 H locs ls hw
    intro M L v2 v3 v4 v5 H locs ls hw hW hl
    have hw : wpX0_fewestAirs_23 post K23 M L v2 v3 v4 v5 := by rw [hKe]; exact hw
    clear ih
    unfold wpX0_fewestAirs_23 at hw
    refine lv_iload hx hb0 dX0_fewestAirs_23 (lv_at hl 4 rfl) ?_
    refine lv_sipush (v := (256 : Int32)) hx hb0 dX0_fewestAirs_25 (by decide) ?_
    refine lv_icmp_ge (tgt := 105) hx hb0 dX0_fewestAirs_28 (by decide) (fun c_28 => ?_) (fun c_28 => ?_)
    · replace hw := hw.1 c_28
      exact mX0_fewestAirs_105 X post hret M L v2 _ _ ls hw hW (lv_sub hl [0, 1] rfl)
    · replace hw := hw.2 c_28
      refine lv_iload hx hb0 dX0_fewestAirs_31 (lv_at hl 4 rfl) ?_
      refine lv_aload_n hx hb0 dX0_fewestAirs_33 rfl (lv_at hl 0 rfl) ?_
      refine z_getI X hW zC0 zF_7_2 (by decide) rfl zl_X0_18 dX0_fewestAirs_34 ?_
      refine lv_icmp_ge (tgt := 105) hx hb0 dX0_fewestAirs_37 (by decide) (fun c_37 => ?_) (fun c_37 => ?_)
      · replace hw := hw.1 c_37
        exact mX0_fewestAirs_105 X post hret M L v2 _ _ ls hw hW (lv_sub hl [0, 1] rfl)
      · replace hw := hw.2 c_37
        refine lv_aload_n hx hb0 dX0_fewestAirs_40 rfl (lv_at hl 0 rfl) ?_
        refine z_getR (k2 := 8) X hW zC0 zR_7_0 (by decide) rfl zl_X0_9 dX0_fewestAirs_41 ?_
        refine lv_iload_n hx hb0 dX0_fewestAirs_44 rfl (lv_at hl 1 rfl) ?_
        obtain ⟨g_45, hw⟩ := hw
        refine z_iald X hW zI_8 g_45 dX0_fewestAirs_45 ?_
        refine lv_bipush (v := (-6 : Int32)) hx hb0 dX0_fewestAirs_46 (by decide) ?_
        refine lv_icmp_ne (tgt := 105) hx hb0 dX0_fewestAirs_48 (by decide) (fun c_48 => ?_) (fun c_48 => ?_)
        · replace hw := hw.1 c_48
          exact mX0_fewestAirs_105 X post hret M L v2 _ _ ls hw hW (lv_sub hl [0, 1] rfl)
        · replace hw := hw.2 c_48
          refine lv_aload_n hx hb0 dX0_fewestAirs_51 rfl (lv_at hl 0 rfl) ?_
          refine z_getR (k2 := 9) X hW zC0 zR_7_1 (by decide) rfl zl_X0_15 dX0_fewestAirs_52 ?_
          refine lv_iload hx hb0 dX0_fewestAirs_55 (lv_at hl 4 rfl) ?_
          obtain ⟨g_57, hw⟩ := hw
          refine z_iald X hW zI_9 g_57 dX0_fewestAirs_57 ?_
          refine lv_topi (fun a_58 e_58 => ?_)
          replace hw := hw a_58 e_58
          refine lv_istore (lv' := [(6, .int a_58), (0, .ref (ad 7)), (2, .int v2), (3, .int v3), (4, .int v4), (5, .int v5)]) hx hb0 dX0_fewestAirs_58 hl (by decide) rfl (fun ls hl => ?_)
          refine lv_aload_n hx hb0 dX0_fewestAirs_60 rfl (lv_at hl 1 rfl) ?_
          refine lv_iload hx hb0 dX0_fewestAirs_61 (lv_at hl 0 rfl) ?_
          refine lv_iload_n hx hb0 dX0_fewestAirs_63 rfl (lv_at hl 3 rfl) ?_
          refine z_SNi X zc_X3_grown zt_X3_grown zn_X0_32 rfl ⟨rfl, rfl⟩ ⟨Nat.le_of_ble_eq_true rfl, Nat.le_of_ble_eq_true rfl⟩ (kX3_grown l D cy ad X.2.2.2.1 a_58 v3) hW hw hl.1 rfl rfl (Nat.le_of_ble_eq_true rfl) dX0_fewestAirs_64 (fun r_64 M_64 L_64 H_64 locs_64 hw hW => ?_)
          refine lv_aload_n hx hb0 dX0_fewestAirs_67 rfl (lv_at hl 1 rfl) ?_
          refine z_getR (k2 := 8) X hW zC0 zR_7_0 (by decide) rfl zl_X0_9 dX0_fewestAirs_68 ?_
          refine lv_iload hx hb0 dX0_fewestAirs_71 (lv_at hl 0 rfl) ?_
          obtain ⟨g_73, hw⟩ := hw
          refine z_iald X hW zI_8 g_73 dX0_fewestAirs_73 ?_
          refine lv_iconst (v := (1 : Int32)) hx hb0 dX0_fewestAirs_74 (by decide) ?_
          refine lv_iadd hx hb0 dX0_fewestAirs_75 ?_
          refine z_Vv X zO_7 zC0 zc_X0_reach zs_X0_reach zl_X0_28 rfl ⟨rfl, rfl⟩ ⟨Nat.le_of_ble_eq_true rfl, Nat.le_of_ble_eq_true rfl⟩ (kX0_reach l D cy ad X.2.2.2.1 r_64 ((M_64 8 a_58.toNatClampNeg) + (1 : Int32))) hW hw hl.1 rfl rfl (Nat.le_of_ble_eq_true rfl) dX0_fewestAirs_76 (fun M_76 L_76 H_76 locs_76 hw hW => ?_)
          refine lv_aload_n hx hb0 dX0_fewestAirs_79 rfl (lv_at hl 1 rfl) ?_
          refine lv_iload hx hb0 dX0_fewestAirs_80 (lv_at hl 0 rfl) ?_
          refine lv_iload hx hb0 dX0_fewestAirs_82 (lv_at hl 4 rfl) ?_
          refine z_SNi X zc_X3_grown zt_X3_grown zn_X0_32 rfl ⟨rfl, rfl⟩ ⟨Nat.le_of_ble_eq_true rfl, Nat.le_of_ble_eq_true rfl⟩ (kX3_grown l D cy ad X.2.2.2.1 a_58 v4) hW hw hl.1 rfl rfl (Nat.le_of_ble_eq_true rfl) dX0_fewestAirs_84 (fun r_84 M_84 L_84 H_84 locs_84 hw hW => ?_)
          refine lv_aload_n hx hb0 dX0_fewestAirs_87 rfl (lv_at hl 1 rfl) ?_
          refine z_getR (k2 := 8) X hW zC0 zR_7_0 (by decide) rfl zl_X0_9 dX0_fewestAirs_88 ?_
          refine lv_iload hx hb0 dX0_fewestAirs_91 (lv_at hl 0 rfl) ?_
          obtain ⟨g_93, hw⟩ := hw
          refine z_iald X hW zI_8 g_93 dX0_fewestAirs_93 ?_
          refine lv_iconst (v := (1 : Int32)) hx hb0 dX0_fewestAirs_94 (by decide) ?_
          refine lv_iadd hx hb0 dX0_fewestAirs_95 ?_
          refine z_Vv X zO_7 zC0 zc_X0_reach zs_X0_reach zl_X0_28 rfl ⟨rfl, rfl⟩ ⟨Nat.le_of_ble_eq_true rfl, Nat.le_of_ble_eq_true rfl⟩ (kX0_reach l D cy ad X.2.2.2.1 r_84 ((M_84 8 a_58.toNatClampNeg) + (1 : Int32))) hW hw hl.1 rfl rfl (Nat.le_of_ble_eq_true rfl) dX0_fewestAirs_96 (fun M_96 L_96 H_96 locs_96 hw hW => ?_)
          obtain ⟨a_99, e_99⟩ : ∃ y : Int32, y = v5 + (1 : Int32) := ⟨_, rfl⟩
          replace hw := hw a_99 e_99
          refine lv_iinc (v := a_99) (lv' := [(5, .int a_99), (6, .int a_58), (0, .ref (ad 7)), (2, .int v2), (3, .int v3), (4, .int v4)]) hx hb0 dX0_fewestAirs_99 hl (k := 5) rfl (by rw [e_99]; rfl) (by decide) rfl (fun ls hl => ?_)
          refine lv_goto (tgt := 23) hx hb0 dX0_fewestAirs_102 (by decide) ?_
          exact hK23 M_96 L_96 v2 v3 v4 a_99 _ _ ls hw hW (lv_sub hl [2, 3, 4, 5, 0] rfl)
set_option maxRecDepth 20000 in
set_option maxHeartbeats 4000000 in
theorem mX0_fewestAirs {p : Program} {l : Launch} {e : Env} {s : State} {m : MethodId} {args : Array Value} {below : List Frame} {meth : Method} {c : Code} {cells slots : Nat} {Q : State → Prop} {D : va_G} {cy : Nat → ClassId} {ad : Nat → Nat} {A : Nat → Prop} (X : zCx p rmX0_fewestAirs s m args c cells slots cX0_fewestAirs 7 RX0 D cy ad A) (post : Int32 → Mm → Ml → Prop) (hret : zRi p l e rmX0_fewestAirs s m args below meth c cells slots Q cX0_fewestAirs D cy ad A .int post) : ∀ (M : Mm) (L : Ml) (x1 : Int32) (x2 : Int32) (x3 : Int32) (x4 : Int32) (H : Heap) (locs : List Loc) (ls : Array Slot), wpX0_fewestAirs x1 x2 x3 x4 M L post → zWd D cy ad A s H locs M L → lv_has ls 7 [(0, .ref (ad 7)), (1, .int x1), (2, .int x2), (3, .int x3), (4, .int x4)] → W p l e rmX0_fewestAirs s m args below meth c H locs cells slots Q (F0 m 0 ls []) := by
  have hx := X.1.1; have hb0 := X.1.2.1; have hts := X.1.2.2.2.2
  intro M L x1 x2 x3 x4 H locs ls hw hW hl
  unfold wpX0_fewestAirs at hw
  refine lv_aload_n hx hb0 dX0_fewestAirs_0 rfl (lv_at hl 0 rfl) ?_
  refine z_getR (k2 := 8) X hW zC0 zR_7_0 (by decide) rfl zl_X0_9 dX0_fewestAirs_1 ?_
  refine lv_bipush (v := (-6 : Int32)) hx hb0 dX0_fewestAirs_4 (by decide) ?_
  refine z_Sv X zc_J7_fill_53178 zt_J7_fill_53178 zl_X0_22 rfl ⟨rfl, rfl⟩ ⟨Nat.le_of_ble_eq_true rfl, Nat.le_of_ble_eq_true rfl⟩ (kJ7_fill_53178 l D cy ad X.2.2.2.1 zI_8 (-6 : Int32)) hW hw hl.1 rfl rfl (Nat.le_of_ble_eq_true rfl) dX0_fewestAirs_6 (fun M_6 L_6 H_6 locs_6 hw hW => ?_)
  refine lv_aload_n hx hb0 dX0_fewestAirs_9 rfl (lv_at hl 0 rfl) ?_
  refine lv_iconst (v := (0 : Int32)) hx hb0 dX0_fewestAirs_10 (by decide) ?_
  refine z_put (ty := .int) X hW zC0 zF_7_2 (by decide) rfl zl_X0_18 rfl (by decide +kernel) rfl rfl dX0_fewestAirs_11 (fun M_11 H_11 locs_11 e_11 hW => ?_)
  replace hw := hw M_11 e_11
  refine lv_aload_n hx hb0 dX0_fewestAirs_14 rfl (lv_at hl 0 rfl) ?_
  refine lv_iload_n hx hb0 dX0_fewestAirs_15 rfl (lv_at hl 1 rfl) ?_
  refine lv_iconst (v := (0 : Int32)) hx hb0 dX0_fewestAirs_16 (by decide) ?_
  refine z_Vv X zO_7 zC0 zc_X0_reach zs_X0_reach zl_X0_28 rfl ⟨rfl, rfl⟩ ⟨Nat.le_of_ble_eq_true rfl, Nat.le_of_ble_eq_true rfl⟩ (kX0_reach l D cy ad X.2.2.2.1 x1 (0 : Int32)) hW hw hl.1 rfl rfl (Nat.le_of_ble_eq_true rfl) dX0_fewestAirs_17 (fun M_17 L_17 H_17 locs_17 hw hW => ?_)
  refine lv_iconst (v := (0 : Int32)) hx hb0 dX0_fewestAirs_20 (by decide) ?_
  refine lv_istore (lv' := [(5, .int (0 : Int32)), (0, .ref (ad 7)), (1, .int x1), (2, .int x2), (3, .int x3), (4, .int x4)]) hx hb0 dX0_fewestAirs_21 hl (by decide) rfl (fun ls hl => ?_)
  obtain ⟨n_23, hw⟩ := hw
  exact mX0_fewestAirs_23 X post hret n_23 M_17 L_17 x2 x3 x4 (0 : Int32) _ _ ls hw hW (lv_sub hl [1, 3, 4, 5, 0] rfl)
theorem kX0_fewestAirs (l : Launch) (D : va_G) (cy : Nat → ClassId) (ad : Nat → Nat) (hi : zInj ad) (x1 : Int32) (x2 : Int32) (x3 : Int32) (x4 : Int32) : zMi l yX0_fewestAirs (.code yX0_fewestAirs cX0_fewestAirs 7 (some .int) :: zG) rmX0_fewestAirs D cy ad [.ref (ad 7), .int x1, .int x2, .int x3, .int x4] (wpX0_fewestAirs x1 x2 x3 x4) :=
  zMi_of (by decide +kernel) (Nat.le_of_ble_eq_true rfl) hi (fun X M L post _ hret ls hl hw hW => mX0_fewestAirs X post hret M L x1 x2 x3 x4 _ _ ls hw hW hl)
abbrev rmX1_canGet : Room := { frames := 1, cells := 0, slots := 0, locals := 24 }
set_option maxRecDepth 20000 in
set_option maxHeartbeats 4000000 in
theorem mX1_canGet_36 {p : Program} {l : Launch} {e : Env} {s : State} {m : MethodId} {args : Array Value} {below : List Frame} {meth : Method} {c : Code} {cells slots : Nat} {Q : State → Prop} {D : va_G} {cy : Nat → ClassId} {ad : Nat → Nat} {A : Nat → Prop} (X : zCx p rmX1_canGet s m args c cells slots cX1_canGet 4 RX1 D cy ad A) {b : Nat} (hb : isY b) (post : Int32 → Mm → Ml → Prop) (hret : zRi p l e rmX1_canGet s m args below meth c cells slots Q cX1_canGet D cy ad A .boolean post) : ∀ (M : Mm) (L : Ml) (s0 : Int32) (H : Heap) (locs : List Loc) (ls : Array Slot), wpX1_canGet_36 b post M L s0 → zWd D cy ad A s H locs M L → lv_has ls 4 [] → W p l e rmX1_canGet s m args below meth c H locs cells slots Q (F0 m 36 ls [.int s0]) := by
  have hx := X.1.1; have hb0 := X.1.2.1; have hts := X.1.2.2.2.2
  intro M L s0 H locs ls hw hW hl
  unfold wpX1_canGet_36 at hw
  exact hret _ ls _ _ s0 M L dX1_canGet_36 (z_bool hw.1) hw.2 hW
set_option maxRecDepth 20000 in
set_option maxHeartbeats 4000000 in
theorem mX1_canGet_35 {p : Program} {l : Launch} {e : Env} {s : State} {m : MethodId} {args : Array Value} {below : List Frame} {meth : Method} {c : Code} {cells slots : Nat} {Q : State → Prop} {D : va_G} {cy : Nat → ClassId} {ad : Nat → Nat} {A : Nat → Prop} (X : zCx p rmX1_canGet s m args c cells slots cX1_canGet 4 RX1 D cy ad A) {b : Nat} (hb : isY b) (post : Int32 → Mm → Ml → Prop) (hret : zRi p l e rmX1_canGet s m args below meth c cells slots Q cX1_canGet D cy ad A .boolean post) : ∀ (M : Mm) (L : Ml) (H : Heap) (locs : List Loc) (ls : Array Slot), wpX1_canGet_35 b post M L → zWd D cy ad A s H locs M L → lv_has ls 4 [] → W p l e rmX1_canGet s m args below meth c H locs cells slots Q (F0 m 35 ls []) := by
  have hx := X.1.1; have hb0 := X.1.2.1; have hts := X.1.2.2.2.2
  intro M L H locs ls hw hW hl
  unfold wpX1_canGet_35 at hw
  refine lv_iconst (v := (0 : Int32)) hx hb0 dX1_canGet_35 (by decide) ?_
  exact mX1_canGet_36 X hb post hret M L (0 : Int32) _ _ ls hw hW (lv_sub hl [] rfl)
set_option maxRecDepth 20000 in
set_option maxHeartbeats 4000000 in
theorem mX1_canGet {p : Program} {l : Launch} {e : Env} {s : State} {m : MethodId} {args : Array Value} {below : List Frame} {meth : Method} {c : Code} {cells slots : Nat} {Q : State → Prop} {D : va_G} {cy : Nat → ClassId} {ad : Nat → Nat} {A : Nat → Prop} (X : zCx p rmX1_canGet s m args c cells slots cX1_canGet 4 RX1 D cy ad A) {b : Nat} (hb : isY b) (post : Int32 → Mm → Ml → Prop) (hret : zRi p l e rmX1_canGet s m args below meth c cells slots Q cX1_canGet D cy ad A .boolean post) : ∀ (M : Mm) (L : Ml) (x1 : Int32) (x2 : Int32) (H : Heap) (locs : List Loc) (ls : Array Slot), wpX1_canGet b x1 x2 M L post → zWd D cy ad A s H locs M L → lv_has ls 4 [(0, .ref (ad b)), (1, .int x1), (2, .int x2)] → W p l e rmX1_canGet s m args below meth c H locs cells slots Q (F0 m 0 ls []) := by
  have hx := X.1.1; have hb0 := X.1.2.1; have hts := X.1.2.2.2.2
  intro M L x1 x2 H locs ls hw hW hl
  unfold wpX1_canGet at hw
  refine lv_aload_n hx hb0 dX1_canGet_0 rfl (lv_at hl 0 rfl) ?_
  refine z_getRN (k2 := (b + 3)) X hW zC5 (zRY_3 hb) (by decide) rfl zn_X1_9 dX1_canGet_1 ?_
  refine lv_iload_n hx hb0 dX1_canGet_4 rfl (lv_at hl 2 rfl) ?_
  obtain ⟨g_5, hw⟩ := hw
  refine z_iald X hW (zIY_3 hb) g_5 dX1_canGet_5 ?_
  refine lv_topi (fun a_6 e_6 => ?_)
  replace hw := hw a_6 e_6
  refine lv_istore_n (lv' := [(3, .int a_6), (0, .ref (ad b)), (1, .int x1), (2, .int x2)]) hx hb0 dX1_canGet_6 rfl hl (by decide) rfl (fun ls hl => ?_)
  refine lv_iload_n hx hb0 dX1_canGet_7 rfl (lv_at hl 0 rfl) ?_
  refine lv_if_le (tgt := 35) hx hb0 dX1_canGet_8 (by decide) (fun c_8 => ?_) (fun c_8 => ?_)
  · replace hw := hw.1 c_8
    exact mX1_canGet_35 X hb post hret M L _ _ ls hw hW (lv_sub hl [] rfl)
  · replace hw := hw.2 c_8
    refine lv_aload_n hx hb0 dX1_canGet_11 rfl (lv_at hl 1 rfl) ?_
    refine z_getRN (k2 := (b + 6)) X hW zC5 (zRY_6 hb) (by decide) rfl zn_X1_15 dX1_canGet_12 ?_
    refine lv_iload_n hx hb0 dX1_canGet_15 rfl (lv_at hl 2 rfl) ?_
    obtain ⟨g_16, hw⟩ := hw
    refine z_iald X hW (zIY_6 hb) g_16 dX1_canGet_16 ?_
    refine lv_aload_n hx hb0 dX1_canGet_17 rfl (lv_at hl 1 rfl) ?_
    refine z_getRN (k2 := (b + 2)) X hW zC5 (zRY_2 hb) (by decide) rfl zn_X1_18 dX1_canGet_18 ?_
    refine lv_iload_n hx hb0 dX1_canGet_21 rfl (lv_at hl 3 rfl) ?_
    obtain ⟨g_22, hw⟩ := hw
    refine z_iald X hW (zIY_2 hb) g_22 dX1_canGet_22 ?_
    refine lv_isub hx hb0 dX1_canGet_23 ?_
    refine va_mabs hx hb0 (X.1.2.2.1.trans hl.1.symm) X.1.2.2.2.1 (hts _ zl_X1_21) (hts _ zt_J9_abs_0f7a4) (hts _ zc_J9_abs_0f7a4.2.1) (hts _ zc_J9_abs_0f7a4.1) (Nat.le_of_ble_eq_true rfl) (Nat.le_of_ble_eq_true rfl) X.2.2.2.2.2.2.1 X.2.2.2.2.2.2.2 dX1_canGet_24 ?_
    refine lv_iload_n hx hb0 dX1_canGet_27 rfl (lv_at hl 0 rfl) ?_
    refine lv_icmp_gt (tgt := 35) hx hb0 dX1_canGet_28 (by decide) (fun c_28 => ?_) (fun c_28 => ?_)
    · replace hw := hw.1 c_28
      exact mX1_canGet_35 X hb post hret M L _ _ ls hw hW (lv_sub hl [] rfl)
    · replace hw := hw.2 c_28
      refine lv_iconst (v := (1 : Int32)) hx hb0 dX1_canGet_31 (by decide) ?_
      refine lv_goto (tgt := 36) hx hb0 dX1_canGet_32 (by decide) ?_
      exact mX1_canGet_36 X hb post hret M L (1 : Int32) _ _ ls hw hW (lv_sub hl [] rfl)
theorem kX1_canGet (l : Launch) (D : va_G) (cy : Nat → ClassId) (ad : Nat → Nat) (hi : zInj ad) {b : Nat} (hb : isY b) (x1 : Int32) (x2 : Int32) : zMi l yX1_canGet (.code yX1_canGet cX1_canGet 4 (some .boolean) :: zG) rmX1_canGet D cy ad [.ref (ad b), .int x1, .int x2] (wpX1_canGet b x1 x2) :=
  zMi_of (by decide +kernel) (Nat.le_of_ble_eq_true rfl) hi (fun X M L post _ hret ls hl hw hW => mX1_canGet X hb post hret M L x1 x2 _ _ ls hw hW hl)
abbrev rmJ6_bitCount_0f7a4 : Room := { frames := 0, cells := 0, slots := 0, locals := 0 }
set_option maxRecDepth 20000 in
set_option maxHeartbeats 4000000 in
theorem mJ6_bitCount_0f7a4 {p : Program} {l : Launch} {e : Env} {s : State} {m : MethodId} {args : Array Value} {below : List Frame} {meth : Method} {c : Code} {cells slots : Nat} {Q : State → Prop} {D : va_G} {cy : Nat → ClassId} {ad : Nat → Nat} {A : Nat → Prop} (X : zCx p rmJ6_bitCount_0f7a4 s m args c cells slots cJ6_bitCount_0f7a4 1 RJ6 D cy ad A) (post : Int32 → Mm → Ml → Prop) (hret : zRi p l e rmJ6_bitCount_0f7a4 s m args below meth c cells slots Q cJ6_bitCount_0f7a4 D cy ad A .int post) : ∀ (M : Mm) (L : Ml) (x1 : Int32) (H : Heap) (locs : List Loc) (ls : Array Slot), wpJ6_bitCount_0f7a4 x1 M L post → zWd D cy ad A s H locs M L → lv_has ls 1 [(0, .int x1)] → W p l e rmJ6_bitCount_0f7a4 s m args below meth c H locs cells slots Q (F0 m 0 ls []) := by
  have hx := X.1.1; have hb0 := X.1.2.1; have hts := X.1.2.2.2.2
  intro M L x1 H locs ls hw hW hl
  unfold wpJ6_bitCount_0f7a4 at hw
  refine lv_iload_n hx hb0 dJ6_bitCount_0f7a4_0 rfl (lv_at hl 0 rfl) ?_
  refine lv_iload_n hx hb0 dJ6_bitCount_0f7a4_1 rfl (lv_at hl 0 rfl) ?_
  refine lv_iconst (v := (1 : Int32)) hx hb0 dJ6_bitCount_0f7a4_2 (by decide) ?_
  refine lv_iushr hx hb0 dJ6_bitCount_0f7a4_3 rfl ?_
  refine lv_ldcw (v := (1431655765 : Int32)) hx hb0 X.1.2.2.2.1 (hts _ zk_J6_265) dJ6_bitCount_0f7a4_4 ?_
  refine lv_iand hx hb0 dJ6_bitCount_0f7a4_7 ?_
  refine lv_isub hx hb0 dJ6_bitCount_0f7a4_8 ?_
  refine lv_topi (fun a_9 e_9 => ?_)
  replace hw := hw a_9 e_9
  refine lv_istore_n (lv' := [(0, .int a_9)]) hx hb0 dJ6_bitCount_0f7a4_9 rfl hl (by decide) rfl (fun ls hl => ?_)
  refine lv_iload_n hx hb0 dJ6_bitCount_0f7a4_10 rfl (lv_at hl 0 rfl) ?_
  refine lv_ldcw (v := (858993459 : Int32)) hx hb0 X.1.2.2.2.1 (hts _ zk_J6_266) dJ6_bitCount_0f7a4_11 ?_
  refine lv_iand hx hb0 dJ6_bitCount_0f7a4_14 ?_
  refine lv_iload_n hx hb0 dJ6_bitCount_0f7a4_15 rfl (lv_at hl 0 rfl) ?_
  refine lv_iconst (v := (2 : Int32)) hx hb0 dJ6_bitCount_0f7a4_16 (by decide) ?_
  refine lv_iushr hx hb0 dJ6_bitCount_0f7a4_17 rfl ?_
  refine lv_ldcw (v := (858993459 : Int32)) hx hb0 X.1.2.2.2.1 (hts _ zk_J6_266) dJ6_bitCount_0f7a4_18 ?_
  refine lv_iand hx hb0 dJ6_bitCount_0f7a4_21 ?_
  refine lv_iadd hx hb0 dJ6_bitCount_0f7a4_22 ?_
  refine lv_topi (fun a_23 e_23 => ?_)
  replace hw := hw a_23 e_23
  refine lv_istore_n (lv' := [(0, .int a_23)]) hx hb0 dJ6_bitCount_0f7a4_23 rfl hl (by decide) rfl (fun ls hl => ?_)
  refine lv_iload_n hx hb0 dJ6_bitCount_0f7a4_24 rfl (lv_at hl 0 rfl) ?_
  refine lv_iload_n hx hb0 dJ6_bitCount_0f7a4_25 rfl (lv_at hl 0 rfl) ?_
  refine lv_iconst (v := (4 : Int32)) hx hb0 dJ6_bitCount_0f7a4_26 (by decide) ?_
  refine lv_iushr hx hb0 dJ6_bitCount_0f7a4_27 rfl ?_
  refine lv_iadd hx hb0 dJ6_bitCount_0f7a4_28 ?_
  refine lv_ldcw (v := (252645135 : Int32)) hx hb0 X.1.2.2.2.1 (hts _ zk_J6_267) dJ6_bitCount_0f7a4_29 ?_
  refine lv_iand hx hb0 dJ6_bitCount_0f7a4_32 ?_
  refine lv_topi (fun a_33 e_33 => ?_)
  replace hw := hw a_33 e_33
  refine lv_istore_n (lv' := [(0, .int a_33)]) hx hb0 dJ6_bitCount_0f7a4_33 rfl hl (by decide) rfl (fun ls hl => ?_)
  refine lv_iload_n hx hb0 dJ6_bitCount_0f7a4_34 rfl (lv_at hl 0 rfl) ?_
  refine lv_iload_n hx hb0 dJ6_bitCount_0f7a4_35 rfl (lv_at hl 0 rfl) ?_
  refine lv_bipush (v := (8 : Int32)) hx hb0 dJ6_bitCount_0f7a4_36 (by decide) ?_
  refine lv_iushr hx hb0 dJ6_bitCount_0f7a4_38 rfl ?_
  refine lv_iadd hx hb0 dJ6_bitCount_0f7a4_39 ?_
  refine lv_topi (fun a_40 e_40 => ?_)
  replace hw := hw a_40 e_40
  refine lv_istore_n (lv' := [(0, .int a_40)]) hx hb0 dJ6_bitCount_0f7a4_40 rfl hl (by decide) rfl (fun ls hl => ?_)
  refine lv_iload_n hx hb0 dJ6_bitCount_0f7a4_41 rfl (lv_at hl 0 rfl) ?_
  refine lv_iload_n hx hb0 dJ6_bitCount_0f7a4_42 rfl (lv_at hl 0 rfl) ?_
  refine lv_bipush (v := (16 : Int32)) hx hb0 dJ6_bitCount_0f7a4_43 (by decide) ?_
  refine lv_iushr hx hb0 dJ6_bitCount_0f7a4_45 rfl ?_
  refine lv_iadd hx hb0 dJ6_bitCount_0f7a4_46 ?_
  refine lv_topi (fun a_47 e_47 => ?_)
  replace hw := hw a_47 e_47
  refine lv_istore_n (lv' := [(0, .int a_47)]) hx hb0 dJ6_bitCount_0f7a4_47 rfl hl (by decide) rfl (fun ls hl => ?_)
  refine lv_iload_n hx hb0 dJ6_bitCount_0f7a4_48 rfl (lv_at hl 0 rfl) ?_
  refine lv_bipush (v := (63 : Int32)) hx hb0 dJ6_bitCount_0f7a4_49 (by decide) ?_
  refine lv_iand hx hb0 dJ6_bitCount_0f7a4_51 ?_
  exact hret _ ls _ _ (a_47 &&& (63 : Int32)) M L dJ6_bitCount_0f7a4_52 rfl hw hW
theorem kJ6_bitCount_0f7a4 (l : Launch) (D : va_G) (cy : Nat → ClassId) (ad : Nat → Nat) (hi : zInj ad) (x1 : Int32) : zMi l yJ6_bitCount_0f7a4 (.code yJ6_bitCount_0f7a4 cJ6_bitCount_0f7a4 1 (some .int) :: zG) rmJ6_bitCount_0f7a4 D cy ad [.int x1] (wpJ6_bitCount_0f7a4 x1) :=
  zMi_of (by decide +kernel) (Nat.le_of_ble_eq_true rfl) hi (fun X M L post _ hret ls hl hw hW => mJ6_bitCount_0f7a4 X post hret M L x1 _ _ ls hw hW hl)
abbrev rmX1_byAddressees : Room := { frames := 2, cells := 0, slots := 0, locals := 47 }
set_option maxRecDepth 20000 in
set_option maxHeartbeats 4000000 in
theorem mX1_byAddressees_32 {p : Program} {l : Launch} {e : Env} {s : State} {m : MethodId} {args : Array Value} {below : List Frame} {meth : Method} {c : Code} {cells slots : Nat} {Q : State → Prop} {D : va_G} {cy : Nat → ClassId} {ad : Nat → Nat} {A : Nat → Prop} (X : zCx p rmX1_byAddressees s m args c cells slots cX1_byAddressees 4 RX1 D cy ad A) {b : Nat} (hb : isY b) (post : Int32 → Mm → Ml → Prop) (hret : zRi p l e rmX1_byAddressees s m args below meth c cells slots Q cX1_byAddressees D cy ad A .int post) (K4 : Mm → Ml → Int32 → Int32 → Prop) (hK4 : ∀ (M : Mm) (L : Ml) (v1 : Int32) (v2 : Int32) (H : Heap) (locs : List Loc) (ls : Array Slot), K4 M L v1 v2 → zWd D cy ad A s H locs M L → lv_has ls 4 [(0, .ref (ad b)), (1, .int v1), (2, .int v2)] → W p l e rmX1_byAddressees s m args below meth c H locs cells slots Q (F0 m 4 ls [])) : ∀ (M : Mm) (L : Ml) (v1 : Int32) (v2 : Int32) (H : Heap) (locs : List Loc) (ls : Array Slot), wpX1_byAddressees_32 b post K4 M L v1 v2 → zWd D cy ad A s H locs M L → lv_has ls 4 [(0, .ref (ad b)), (1, .int v1), (2, .int v2)] → W p l e rmX1_byAddressees s m args below meth c H locs cells slots Q (F0 m 32 ls []) := by
  have hx := X.1.1; have hb0 := X.1.2.1; have hts := X.1.2.2.2.2
  intro M L v1 v2 H locs ls hw hW hl
  unfold wpX1_byAddressees_32 at hw
  obtain ⟨a_32, e_32⟩ : ∃ y : Int32, y = v2 + (1 : Int32) := ⟨_, rfl⟩
  replace hw := hw a_32 e_32
  refine lv_iinc (v := a_32) (lv' := [(2, .int a_32), (0, .ref (ad b)), (1, .int v1)]) hx hb0 dX1_byAddressees_32 hl (k := 2) rfl (by rw [e_32]; rfl) (by decide) rfl (fun ls hl => ?_)
  refine lv_goto (tgt := 4) hx hb0 dX1_byAddressees_35 (by decide) ?_
  exact hK4 M L v1 a_32 _ _ ls hw hW (lv_sub hl [1, 2, 0] rfl)
set_option maxRecDepth 20000 in
set_option maxHeartbeats 4000000 in
theorem mX1_byAddressees_4 {p : Program} {l : Launch} {e : Env} {s : State} {m : MethodId} {args : Array Value} {below : List Frame} {meth : Method} {c : Code} {cells slots : Nat} {Q : State → Prop} {D : va_G} {cy : Nat → ClassId} {ad : Nat → Nat} {A : Nat → Prop} (X : zCx p rmX1_byAddressees s m args c cells slots cX1_byAddressees 4 RX1 D cy ad A) {b : Nat} (hb : isY b) (post : Int32 → Mm → Ml → Prop) (hret : zRi p l e rmX1_byAddressees s m args below meth c cells slots Q cX1_byAddressees D cy ad A .int post) : ∀ (j9 : Nat) (M : Mm) (L : Ml) (v1 : Int32) (v2 : Int32) (H : Heap) (locs : List Loc) (ls : Array Slot), wlX1_byAddressees_4 b post j9 (M, L, v1, v2) → zWd D cy ad A s H locs M L → lv_has ls 4 [(0, .ref (ad b)), (1, .int v1), (2, .int v2)] → W p l e rmX1_byAddressees s m args below meth c H locs cells slots Q (F0 m 4 ls []) := by
  have hx := X.1.1; have hb0 := X.1.2.1; have hts := X.1.2.2.2.2
  intro j9
  induction j9 with
  | zero => intro M L v1 v2 H locs ls hw; exact hw.elim
  | succ j9 ih =>
    obtain ⟨K4, hKe⟩ : ∃ K : Mm → Ml → Int32 → Int32 → Prop, K = fun M L v1 v2 => wlX1_byAddressees_4 b post j9 (M, L, v1, v2) := ⟨_, rfl⟩
    have hK4 : ∀ (M : Mm) (L : Ml) (v1 : Int32) (v2 : Int32) (H : Heap) (locs : List Loc) (ls : Array Slot), K4 M L v1 v2 → zWd D cy ad A s H locs M L → lv_has ls 4 [(0, .ref (ad b)), (1, .int v1), (2, .int v2)] → W p l e rmX1_byAddressees s m args below meth c H locs cells slots Q (F0 m 4 ls []) := by intro M L v1 v2 H locs ls hw; rw [hKe] at hw; exact ih M L v1 v2 H locs ls hw
    intro M L v1 v2 H locs ls hw hW hl
    have hw : wpX1_byAddressees_4 b post K4 M L v1 v2 := by rw [hKe]; exact hw
    clear ih
    unfold wpX1_byAddressees_4 at hw
    refine lv_iload_n hx hb0 dX1_byAddressees_4 rfl (lv_at hl 2 rfl) ?_
    refine lv_bipush (v := (8 : Int32)) hx hb0 dX1_byAddressees_5 (by decide) ?_
    refine lv_icmp_ge (tgt := 38) hx hb0 dX1_byAddressees_7 (by decide) (fun c_7 => ?_) (fun c_7 => ?_)
    · replace hw := hw.1 c_7
      refine lv_iload_n hx hb0 dX1_byAddressees_38 rfl (lv_at hl 1 rfl) ?_
      refine z_Si X zc_J6_bitCount_0f7a4 zt_J6_bitCount_0f7a4 zl_X1_36 rfl ⟨rfl, rfl⟩ ⟨Nat.le_of_ble_eq_true rfl, Nat.le_of_ble_eq_true rfl⟩ (kJ6_bitCount_0f7a4 l D cy ad X.2.2.2.1 v1) hW hw hl.1 rfl rfl (Nat.le_of_ble_eq_true rfl) dX1_byAddressees_39 (fun r_39 M_39 L_39 H_39 locs_39 hw hW => ?_)
      exact hret _ ls _ _ r_39 M_39 L_39 dX1_byAddressees_42 rfl hw hW
    · replace hw := hw.2 c_7
      refine lv_aload_n hx hb0 dX1_byAddressees_10 rfl (lv_at hl 0 rfl) ?_
      refine z_getRN (k2 := (b + 4)) X hW zC5 (zRY_4 hb) (by decide) rfl zn_X1_27 dX1_byAddressees_11 ?_
      refine lv_iload_n hx hb0 dX1_byAddressees_14 rfl (lv_at hl 2 rfl) ?_
      obtain ⟨g_15, hw⟩ := hw
      refine z_iald X hW (zIY_4 hb) g_15 dX1_byAddressees_15 ?_
      refine lv_topi (fun a_16 e_16 => ?_)
      replace hw := hw a_16 e_16
      refine lv_istore_n (lv' := [(3, .int a_16), (0, .ref (ad b)), (1, .int v1), (2, .int v2)]) hx hb0 dX1_byAddressees_16 rfl hl (by decide) rfl (fun ls hl => ?_)
      refine lv_aload_n hx hb0 dX1_byAddressees_17 rfl (lv_at hl 1 rfl) ?_
      refine lv_iload_n hx hb0 dX1_byAddressees_18 rfl (lv_at hl 0 rfl) ?_
      refine lv_iload_n hx hb0 dX1_byAddressees_19 rfl (lv_at hl 3 rfl) ?_
      refine z_Si X zc_X1_canGet zt_X1_canGet zl_X1_30 rfl ⟨rfl, rfl⟩ ⟨Nat.le_of_ble_eq_true rfl, Nat.le_of_ble_eq_true rfl⟩ (kX1_canGet l D cy ad X.2.2.2.1 hb a_16 v2) hW hw hl.1 rfl rfl (Nat.le_of_ble_eq_true rfl) dX1_byAddressees_20 (fun r_20 M_20 L_20 H_20 locs_20 hw hW => ?_)
      refine lv_if_eq (tgt := 32) hx hb0 dX1_byAddressees_23 (by decide) (fun c_23 => ?_) (fun c_23 => ?_)
      · replace hw := hw.1 c_23
        exact mX1_byAddressees_32 X hb post hret K4 hK4 M_20 L_20 v1 v2 _ _ ls hw hW (lv_sub hl [1, 2, 3] rfl)
      · replace hw := hw.2 c_23
        refine lv_iload_n hx hb0 dX1_byAddressees_26 rfl (lv_at hl 2 rfl) ?_
        refine lv_iconst (v := (1 : Int32)) hx hb0 dX1_byAddressees_27 (by decide) ?_
        refine lv_iload_n hx hb0 dX1_byAddressees_28 rfl (lv_at hl 0 rfl) ?_
        refine lv_ishl hx hb0 dX1_byAddressees_29 ?_
        refine lv_ior hx hb0 dX1_byAddressees_30 ?_
        refine lv_topi (fun a_31 e_31 => ?_)
        replace hw := hw a_31 e_31
        refine lv_istore_n (lv' := [(1, .int a_31), (3, .int a_16), (0, .ref (ad b)), (2, .int v2)]) hx hb0 dX1_byAddressees_31 rfl hl (by decide) rfl (fun ls hl => ?_)
        exact mX1_byAddressees_32 X hb post hret K4 hK4 M_20 L_20 a_31 v2 _ _ ls hw hW (lv_sub hl [2, 0, 3] rfl)
set_option maxRecDepth 20000 in
set_option maxHeartbeats 4000000 in
theorem mX1_byAddressees {p : Program} {l : Launch} {e : Env} {s : State} {m : MethodId} {args : Array Value} {below : List Frame} {meth : Method} {c : Code} {cells slots : Nat} {Q : State → Prop} {D : va_G} {cy : Nat → ClassId} {ad : Nat → Nat} {A : Nat → Prop} (X : zCx p rmX1_byAddressees s m args c cells slots cX1_byAddressees 4 RX1 D cy ad A) {b : Nat} (hb : isY b) (post : Int32 → Mm → Ml → Prop) (hret : zRi p l e rmX1_byAddressees s m args below meth c cells slots Q cX1_byAddressees D cy ad A .int post) : ∀ (M : Mm) (L : Ml) (H : Heap) (locs : List Loc) (ls : Array Slot), wpX1_byAddressees b M L post → zWd D cy ad A s H locs M L → lv_has ls 4 [(0, .ref (ad b))] → W p l e rmX1_byAddressees s m args below meth c H locs cells slots Q (F0 m 0 ls []) := by
  have hx := X.1.1; have hb0 := X.1.2.1; have hts := X.1.2.2.2.2
  intro M L H locs ls hw hW hl
  unfold wpX1_byAddressees at hw
  refine lv_iconst (v := (0 : Int32)) hx hb0 dX1_byAddressees_0 (by decide) ?_
  refine lv_istore_n (lv' := [(1, .int (0 : Int32)), (0, .ref (ad b))]) hx hb0 dX1_byAddressees_1 rfl hl (by decide) rfl (fun ls hl => ?_)
  refine lv_iconst (v := (0 : Int32)) hx hb0 dX1_byAddressees_2 (by decide) ?_
  refine lv_istore_n (lv' := [(2, .int (0 : Int32)), (1, .int (0 : Int32)), (0, .ref (ad b))]) hx hb0 dX1_byAddressees_3 rfl hl (by decide) rfl (fun ls hl => ?_)
  obtain ⟨n_4, hw⟩ := hw
  exact mX1_byAddressees_4 X hb post hret n_4 M L (0 : Int32) (0 : Int32) _ _ ls hw hW (lv_sub hl [2, 1, 0] rfl)
theorem kX1_byAddressees (l : Launch) (D : va_G) (cy : Nat → ClassId) (ad : Nat → Nat) (hi : zInj ad) {b : Nat} (hb : isY b) : zMi l yX1_byAddressees (.code yX1_byAddressees cX1_byAddressees 4 (some .int) :: zG) rmX1_byAddressees D cy ad [.ref (ad b)] (wpX1_byAddressees b) :=
  zMi_of (by decide +kernel) (Nat.le_of_ble_eq_true rfl) hi (fun X M L post _ hret ls hl hw hW => mX1_byAddressees X hb post hret M L _ _ ls hw hW hl)
abbrev rmX1_joinedBy : Room := { frames := 1, cells := 0, slots := 0, locals := 21 }
set_option maxRecDepth 20000 in
set_option maxHeartbeats 4000000 in
theorem mX1_joinedBy_43 {p : Program} {l : Launch} {e : Env} {s : State} {m : MethodId} {args : Array Value} {below : List Frame} {meth : Method} {c : Code} {cells slots : Nat} {Q : State → Prop} {D : va_G} {cy : Nat → ClassId} {ad : Nat → Nat} {A : Nat → Prop} (X : zCx p rmX1_joinedBy s m args c cells slots cX1_joinedBy 6 RX1 D cy ad A) (post : Int64 → Mm → Ml → Prop) (hret : zRl p l e rmX1_joinedBy s m args below meth c cells slots Q cX1_joinedBy D cy ad A post) (K5 : Mm → Ml → Int32 → Int64 → Int64 → Int32 → Prop) (hK5 : ∀ (M : Mm) (L : Ml) (v0 : Int32) (v1 : Int64) (v3 : Int64) (v5 : Int32) (H : Heap) (locs : List Loc) (ls : Array Slot), K5 M L v0 v1 v3 v5 → zWd D cy ad A s H locs M L → lv_has ls 6 [(0, .int v0), (1, .long v1), (3, .long v3), (5, .int v5)] → W p l e rmX1_joinedBy s m args below meth c H locs cells slots Q (F0 m 5 ls [])) : ∀ (M : Mm) (L : Ml) (v0 : Int32) (v1 : Int64) (v3 : Int64) (v5 : Int32) (H : Heap) (locs : List Loc) (ls : Array Slot), wpX1_joinedBy_43 post K5 M L v0 v1 v3 v5 → zWd D cy ad A s H locs M L → lv_has ls 6 [(0, .int v0), (1, .long v1), (3, .long v3), (5, .int v5)] → W p l e rmX1_joinedBy s m args below meth c H locs cells slots Q (F0 m 43 ls []) := by
  have hx := X.1.1; have hb0 := X.1.2.1; have hts := X.1.2.2.2.2
  intro M L v0 v1 v3 v5 H locs ls hw hW hl
  unfold wpX1_joinedBy_43 at hw
  obtain ⟨a_43, e_43⟩ : ∃ y : Int32, y = v5 + (1 : Int32) := ⟨_, rfl⟩
  replace hw := hw a_43 e_43
  refine lv_iinc (v := a_43) (lv' := [(5, .int a_43), (0, .int v0), (1, .long v1), (3, .long v3)]) hx hb0 dX1_joinedBy_43 hl (k := 3) rfl (by rw [e_43]; rfl) (by decide) rfl (fun ls hl => ?_)
  refine lv_goto (tgt := 5) hx hb0 dX1_joinedBy_46 (by decide) ?_
  exact hK5 M L v0 v1 v3 a_43 _ _ ls hw hW (lv_sub hl [1, 2, 3, 0] rfl)
set_option maxRecDepth 20000 in
set_option maxHeartbeats 4000000 in
theorem mX1_joinedBy_5 {p : Program} {l : Launch} {e : Env} {s : State} {m : MethodId} {args : Array Value} {below : List Frame} {meth : Method} {c : Code} {cells slots : Nat} {Q : State → Prop} {D : va_G} {cy : Nat → ClassId} {ad : Nat → Nat} {A : Nat → Prop} (X : zCx p rmX1_joinedBy s m args c cells slots cX1_joinedBy 6 RX1 D cy ad A) (post : Int64 → Mm → Ml → Prop) (hret : zRl p l e rmX1_joinedBy s m args below meth c cells slots Q cX1_joinedBy D cy ad A post) : ∀ (j9 : Nat) (M : Mm) (L : Ml) (v0 : Int32) (v1 : Int64) (v3 : Int64) (v5 : Int32) (H : Heap) (locs : List Loc) (ls : Array Slot), wlX1_joinedBy_5 post j9 (M, L, v0, v1, v3, v5) → zWd D cy ad A s H locs M L → lv_has ls 6 [(0, .int v0), (1, .long v1), (3, .long v3), (5, .int v5)] → W p l e rmX1_joinedBy s m args below meth c H locs cells slots Q (F0 m 5 ls []) := by
  have hx := X.1.1; have hb0 := X.1.2.1; have hts := X.1.2.2.2.2
  intro j9
  induction j9 with
  | zero => intro M L v0 v1 v3 v5 H locs ls hw; exact hw.elim
  | succ j9 ih =>
    obtain ⟨K5, hKe⟩ : ∃ K : Mm → Ml → Int32 → Int64 → Int64 → Int32 → Prop, K = fun M L v0 v1 v3 v5 => wlX1_joinedBy_5 post j9 (M, L, v0, v1, v3, v5) := ⟨_, rfl⟩
    have hK5 : ∀ (M : Mm) (L : Ml) (v0 : Int32) (v1 : Int64) (v3 : Int64) (v5 : Int32) (H : Heap) (locs : List Loc) (ls : Array Slot), K5 M L v0 v1 v3 v5 → zWd D cy ad A s H locs M L → lv_has ls 6 [(0, .int v0), (1, .long v1), (3, .long v3), (5, .int v5)] → W p l e rmX1_joinedBy s m args below meth c H locs cells slots Q (F0 m 5 ls []) := by intro M L v0 v1 v3 v5 H locs ls hw; rw [hKe] at hw; exact ih M L v0 v1 v3 v5 H locs ls hw
    intro M L v0 v1 v3 v5 H locs ls hw hW hl
    have hw : wpX1_joinedBy_5 post K5 M L v0 v1 v3 v5 := by rw [hKe]; exact hw
    clear ih
    unfold wpX1_joinedBy_5 at hw
    refine lv_iload hx hb0 dX1_joinedBy_5 (lv_at hl 3 rfl) ?_
    refine lv_bipush (v := (64 : Int32)) hx hb0 dX1_joinedBy_7 (by decide) ?_
    refine lv_icmp_ge (tgt := 49) hx hb0 dX1_joinedBy_9 (by decide) (fun c_9 => ?_) (fun c_9 => ?_)
    · replace hw := hw.1 c_9
      refine lv_lload_n hx hb0 dX1_joinedBy_49 rfl (lv_at hl 2 rfl) ?_
      exact hret _ ls _ _ v3 M L dX1_joinedBy_50 hw hW
    · replace hw := hw.2 c_9
      refine lv_lload_n hx hb0 dX1_joinedBy_12 rfl (lv_at hl 1 rfl) ?_
      refine lv_iload hx hb0 dX1_joinedBy_13 (lv_at hl 3 rfl) ?_
      refine lv_lshr hx hb0 dX1_joinedBy_15 rfl ?_
      refine lv_lconst (v := (1 : Int64)) hx hb0 dX1_joinedBy_16 (by decide) ?_
      refine lv_land hx hb0 dX1_joinedBy_17 ?_
      refine lv_lconst (v := (1 : Int64)) hx hb0 dX1_joinedBy_18 (by decide) ?_
      refine W.lcmp hx hb0 dX1_joinedBy_19 ?_
      refine lv_if_ne (tgt := 43) hx hb0 dX1_joinedBy_20 (by decide) (fun c_20 => ?_) (fun c_20 => ?_)
      · replace hw := hw.1 c_20
        exact mX1_joinedBy_43 X post hret K5 hK5 M L v0 v1 v3 v5 _ _ ls hw hW (lv_sub hl [0, 1, 2, 3] rfl)
      · replace hw := hw.2 c_20
        refine lv_iload hx hb0 dX1_joinedBy_23 (lv_at hl 3 rfl) ?_
        refine lv_iload_n hx hb0 dX1_joinedBy_25 rfl (lv_at hl 0 rfl) ?_
        refine z_SNi X zc_X8_bit zt_X8_bit zn_X1_49 rfl ⟨rfl, rfl⟩ ⟨Nat.le_of_ble_eq_true rfl, Nat.le_of_ble_eq_true rfl⟩ (kX8_bit l D cy ad X.2.2.2.1 v5 v0) hW hw hl.1 rfl rfl (Nat.le_of_ble_eq_true rfl) dX1_joinedBy_26 (fun r_26 M_26 L_26 H_26 locs_26 hw hW => ?_)
        refine lv_if_ne (tgt := 43) hx hb0 dX1_joinedBy_29 (by decide) (fun c_29 => ?_) (fun c_29 => ?_)
        · replace hw := hw.1 c_29
          exact mX1_joinedBy_43 X post hret K5 hK5 M_26 L_26 v0 v1 v3 v5 _ _ ls hw hW (lv_sub hl [0, 1, 2, 3] rfl)
        · replace hw := hw.2 c_29
          refine lv_lload_n hx hb0 dX1_joinedBy_32 rfl (lv_at hl 2 rfl) ?_
          refine lv_lconst (v := (1 : Int64)) hx hb0 dX1_joinedBy_33 (by decide) ?_
          refine lv_iload hx hb0 dX1_joinedBy_34 (lv_at hl 3 rfl) ?_
          refine lv_iconst (v := (1 : Int32)) hx hb0 dX1_joinedBy_36 (by decide) ?_
          refine lv_iload_n hx hb0 dX1_joinedBy_37 rfl (lv_at hl 0 rfl) ?_
          refine lv_ishl hx hb0 dX1_joinedBy_38 ?_
          refine lv_ior hx hb0 dX1_joinedBy_39 ?_
          refine lv_lshl hx hb0 dX1_joinedBy_40 rfl ?_
          refine lv_lor hx hb0 dX1_joinedBy_41 ?_
          refine lv_topl (fun a_42 e_42 => ?_)
          replace hw := hw a_42 e_42
          refine lv_lstore_n (lv' := [(3, .long a_42), (0, .int v0), (1, .long v1), (5, .int v5)]) hx hb0 dX1_joinedBy_42 rfl hl (by decide) rfl (fun ls hl => ?_)
          exact mX1_joinedBy_43 X post hret K5 hK5 M_26 L_26 v0 v1 a_42 v5 _ _ ls hw hW (lv_sub hl [1, 2, 0, 3] rfl)
set_option maxRecDepth 20000 in
set_option maxHeartbeats 4000000 in
theorem mX1_joinedBy {p : Program} {l : Launch} {e : Env} {s : State} {m : MethodId} {args : Array Value} {below : List Frame} {meth : Method} {c : Code} {cells slots : Nat} {Q : State → Prop} {D : va_G} {cy : Nat → ClassId} {ad : Nat → Nat} {A : Nat → Prop} (X : zCx p rmX1_joinedBy s m args c cells slots cX1_joinedBy 6 RX1 D cy ad A) (post : Int64 → Mm → Ml → Prop) (hret : zRl p l e rmX1_joinedBy s m args below meth c cells slots Q cX1_joinedBy D cy ad A post) : ∀ (M : Mm) (L : Ml) (x1 : Int32) (x2 : Int64) (H : Heap) (locs : List Loc) (ls : Array Slot), wpX1_joinedBy x1 x2 M L post → zWd D cy ad A s H locs M L → lv_has ls 6 [(0, .int x1), (1, .long x2)] → W p l e rmX1_joinedBy s m args below meth c H locs cells slots Q (F0 m 0 ls []) := by
  have hx := X.1.1; have hb0 := X.1.2.1; have hts := X.1.2.2.2.2
  intro M L x1 x2 H locs ls hw hW hl
  unfold wpX1_joinedBy at hw
  refine lv_lconst (v := (0 : Int64)) hx hb0 dX1_joinedBy_0 (by decide) ?_
  refine lv_lstore_n (lv' := [(3, .long (0 : Int64)), (0, .int x1), (1, .long x2)]) hx hb0 dX1_joinedBy_1 rfl hl (by decide) rfl (fun ls hl => ?_)
  refine lv_iconst (v := (0 : Int32)) hx hb0 dX1_joinedBy_2 (by decide) ?_
  refine lv_istore (lv' := [(5, .int (0 : Int32)), (3, .long (0 : Int64)), (0, .int x1), (1, .long x2)]) hx hb0 dX1_joinedBy_3 hl (by decide) rfl (fun ls hl => ?_)
  obtain ⟨n_5, hw⟩ := hw
  exact mX1_joinedBy_5 X post hret n_5 M L x1 x2 (0 : Int64) (0 : Int32) _ _ ls hw hW (lv_sub hl [2, 3, 1, 0] rfl)
theorem kX1_joinedBy (l : Launch) (D : va_G) (cy : Nat → ClassId) (ad : Nat → Nat) (hi : zInj ad) (x1 : Int32) (x2 : Int64) : zMl l yX1_joinedBy (.code yX1_joinedBy cX1_joinedBy 6 (some .long) :: zG) rmX1_joinedBy D cy ad [.int x1, .long x2] (wpX1_joinedBy x1 x2) :=
  zMl_of (by decide +kernel) (Nat.le_of_ble_eq_true rfl) hi (fun X M L post _ hret ls hl hw hW => mX1_joinedBy X post hret M L x1 x2 _ _ ls hw hW hl)
abbrev rmX1_byWhoever : Room := { frames := 2, cells := 0, slots := 0, locals := 47 }
set_option maxRecDepth 20000 in
set_option maxHeartbeats 4000000 in
theorem mX1_byWhoever_44 {p : Program} {l : Launch} {e : Env} {s : State} {m : MethodId} {args : Array Value} {below : List Frame} {meth : Method} {c : Code} {cells slots : Nat} {Q : State → Prop} {D : va_G} {cy : Nat → ClassId} {ad : Nat → Nat} {A : Nat → Prop} (X : zCx p rmX1_byWhoever s m args c cells slots cX1_byWhoever 7 RX1 D cy ad A) {b : Nat} (hb : isY b) (post : Int32 → Mm → Ml → Prop) (hret : zRi p l e rmX1_byWhoever s m args below meth c cells slots Q cX1_byWhoever D cy ad A .int post) (K4 : Mm → Ml → Int64 → Int32 → Prop) (hK4 : ∀ (M : Mm) (L : Ml) (v1 : Int64) (v3 : Int32) (H : Heap) (locs : List Loc) (ls : Array Slot), K4 M L v1 v3 → zWd D cy ad A s H locs M L → lv_has ls 7 [(0, .ref (ad b)), (1, .long v1), (3, .int v3)] → W p l e rmX1_byWhoever s m args below meth c H locs cells slots Q (F0 m 4 ls [])) (K16 : Mm → Ml → Int64 → Int32 → Int64 → Int32 → Prop) (hK16 : ∀ (M : Mm) (L : Ml) (v1 : Int64) (v3 : Int32) (v4 : Int64) (v6 : Int32) (H : Heap) (locs : List Loc) (ls : Array Slot), K16 M L v1 v3 v4 v6 → zWd D cy ad A s H locs M L → lv_has ls 7 [(0, .ref (ad b)), (1, .long v1), (3, .int v3), (4, .long v4), (6, .int v6)] → W p l e rmX1_byWhoever s m args below meth c H locs cells slots Q (F0 m 16 ls [])) : ∀ (M : Mm) (L : Ml) (v1 : Int64) (v3 : Int32) (v4 : Int64) (v6 : Int32) (H : Heap) (locs : List Loc) (ls : Array Slot), wpX1_byWhoever_44 b post K4 K16 M L v1 v3 v4 v6 → zWd D cy ad A s H locs M L → lv_has ls 7 [(0, .ref (ad b)), (1, .long v1), (3, .int v3), (4, .long v4), (6, .int v6)] → W p l e rmX1_byWhoever s m args below meth c H locs cells slots Q (F0 m 44 ls []) := by
  have hx := X.1.1; have hb0 := X.1.2.1; have hts := X.1.2.2.2.2
  intro M L v1 v3 v4 v6 H locs ls hw hW hl
  unfold wpX1_byWhoever_44 at hw
  obtain ⟨a_44, e_44⟩ : ∃ y : Int32, y = v6 + (1 : Int32) := ⟨_, rfl⟩
  replace hw := hw a_44 e_44
  refine lv_iinc (v := a_44) (lv' := [(6, .int a_44), (0, .ref (ad b)), (1, .long v1), (3, .int v3), (4, .long v4)]) hx hb0 dX1_byWhoever_44 hl (k := 4) rfl (by rw [e_44]; rfl) (by decide) rfl (fun ls hl => ?_)
  refine lv_goto (tgt := 16) hx hb0 dX1_byWhoever_47 (by decide) ?_
  exact hK16 M L v1 v3 v4 a_44 _ _ ls hw hW (lv_sub hl [1, 2, 3, 4, 0] rfl)
set_option maxRecDepth 20000 in
set_option maxHeartbeats 4000000 in
theorem mX1_byWhoever_16 {p : Program} {l : Launch} {e : Env} {s : State} {m : MethodId} {args : Array Value} {below : List Frame} {meth : Method} {c : Code} {cells slots : Nat} {Q : State → Prop} {D : va_G} {cy : Nat → ClassId} {ad : Nat → Nat} {A : Nat → Prop} (X : zCx p rmX1_byWhoever s m args c cells slots cX1_byWhoever 7 RX1 D cy ad A) {b : Nat} (hb : isY b) (post : Int32 → Mm → Ml → Prop) (hret : zRi p l e rmX1_byWhoever s m args below meth c cells slots Q cX1_byWhoever D cy ad A .int post) (K4 : Mm → Ml → Int64 → Int32 → Prop) (hK4 : ∀ (M : Mm) (L : Ml) (v1 : Int64) (v3 : Int32) (H : Heap) (locs : List Loc) (ls : Array Slot), K4 M L v1 v3 → zWd D cy ad A s H locs M L → lv_has ls 7 [(0, .ref (ad b)), (1, .long v1), (3, .int v3)] → W p l e rmX1_byWhoever s m args below meth c H locs cells slots Q (F0 m 4 ls [])) : ∀ (j9 : Nat) (M : Mm) (L : Ml) (v1 : Int64) (v3 : Int32) (v4 : Int64) (v6 : Int32) (H : Heap) (locs : List Loc) (ls : Array Slot), wlX1_byWhoever_16 b post K4 j9 (M, L, v1, v3, v4, v6) → zWd D cy ad A s H locs M L → lv_has ls 7 [(0, .ref (ad b)), (1, .long v1), (3, .int v3), (4, .long v4), (6, .int v6)] → W p l e rmX1_byWhoever s m args below meth c H locs cells slots Q (F0 m 16 ls []) := by
  have hx := X.1.1; have hb0 := X.1.2.1; have hts := X.1.2.2.2.2
  intro j9
  induction j9 with
  | zero => intro M L v1 v3 v4 v6 H locs ls hw; exact hw.elim
  | succ j9 ih =>
    obtain ⟨K16, hKe⟩ : ∃ K : Mm → Ml → Int64 → Int32 → Int64 → Int32 → Prop, K = fun M L v1 v3 v4 v6 => wlX1_byWhoever_16 b post K4 j9 (M, L, v1, v3, v4, v6) := ⟨_, rfl⟩
    have hK16 : ∀ (M : Mm) (L : Ml) (v1 : Int64) (v3 : Int32) (v4 : Int64) (v6 : Int32) (H : Heap) (locs : List Loc) (ls : Array Slot), K16 M L v1 v3 v4 v6 → zWd D cy ad A s H locs M L → lv_has ls 7 [(0, .ref (ad b)), (1, .long v1), (3, .int v3), (4, .long v4), (6, .int v6)] → W p l e rmX1_byWhoever s m args below meth c H locs cells slots Q (F0 m 16 ls []) := by intro M L v1 v3 v4 v6 H locs ls hw; rw [hKe] at hw; exact ih M L v1 v3 v4 v6 H locs ls hw
    intro M L v1 v3 v4 v6 H locs ls hw hW hl
    have hw : wpX1_byWhoever_16 b post K4 K16 M L v1 v3 v4 v6 := by rw [hKe]; exact hw
    clear ih
    unfold wpX1_byWhoever_16 at hw
    refine lv_iload hx hb0 dX1_byWhoever_16 (lv_at hl 4 rfl) ?_
    refine lv_bipush (v := (6 : Int32)) hx hb0 dX1_byWhoever_18 (by decide) ?_
    refine lv_icmp_ge (tgt := 50) hx hb0 dX1_byWhoever_20 (by decide) (fun c_20 => ?_) (fun c_20 => ?_)
    · replace hw := hw.1 c_20
      refine lv_lload hx hb0 dX1_byWhoever_50 (lv_at hl 3 rfl) ?_
      refine lv_lstore_n (lv' := [(1, .long v4), (0, .ref (ad b)), (3, .int v3), (4, .long v4), (6, .int v6)]) hx hb0 dX1_byWhoever_52 rfl hl (by decide) rfl (fun ls hl => ?_)
      obtain ⟨a_53, e_53⟩ : ∃ y : Int32, y = v3 + (1 : Int32) := ⟨_, rfl⟩
      replace hw := hw a_53 e_53
      refine lv_iinc (v := a_53) (lv' := [(3, .int a_53), (1, .long v4), (0, .ref (ad b)), (4, .long v4), (6, .int v6)]) hx hb0 dX1_byWhoever_53 hl (k := 2) rfl (by rw [e_53]; rfl) (by decide) rfl (fun ls hl => ?_)
      refine lv_goto (tgt := 4) hx hb0 dX1_byWhoever_56 (by decide) ?_
      exact hK4 M L v4 a_53 _ _ ls hw hW (lv_sub hl [2, 1, 0] rfl)
    · replace hw := hw.2 c_20
      refine lv_aload_n hx hb0 dX1_byWhoever_23 rfl (lv_at hl 0 rfl) ?_
      refine lv_iload hx hb0 dX1_byWhoever_24 (lv_at hl 4 rfl) ?_
      refine lv_iload_n hx hb0 dX1_byWhoever_26 rfl (lv_at hl 2 rfl) ?_
      refine z_Si X zc_X1_canGet zt_X1_canGet zl_X1_30 rfl ⟨rfl, rfl⟩ ⟨Nat.le_of_ble_eq_true rfl, Nat.le_of_ble_eq_true rfl⟩ (kX1_canGet l D cy ad X.2.2.2.1 hb v6 v3) hW hw hl.1 rfl rfl (Nat.le_of_ble_eq_true rfl) dX1_byWhoever_27 (fun r_27 M_27 L_27 H_27 locs_27 hw hW => ?_)
      refine lv_if_eq (tgt := 44) hx hb0 dX1_byWhoever_30 (by decide) (fun c_30 => ?_) (fun c_30 => ?_)
      · replace hw := hw.1 c_30
        exact mX1_byWhoever_44 X hb post hret K4 hK4 K16 hK16 M_27 L_27 v1 v3 v4 v6 _ _ ls hw hW (lv_sub hl [0, 1, 2, 3, 4] rfl)
      · replace hw := hw.2 c_30
        refine lv_lload hx hb0 dX1_byWhoever_33 (lv_at hl 3 rfl) ?_
        refine lv_iload hx hb0 dX1_byWhoever_35 (lv_at hl 4 rfl) ?_
        refine lv_lload_n hx hb0 dX1_byWhoever_37 rfl (lv_at hl 1 rfl) ?_
        refine z_Sl X zc_X1_joinedBy zt_X1_joinedBy zl_X1_41 rfl ⟨rfl, rfl⟩ ⟨Nat.le_of_ble_eq_true rfl, Nat.le_of_ble_eq_true rfl⟩ (kX1_joinedBy l D cy ad X.2.2.2.1 v6 v1) hW hw hl.1 rfl rfl (Nat.le_of_ble_eq_true rfl) dX1_byWhoever_38 (fun r_38 M_38 L_38 H_38 locs_38 hw hW => ?_)
        refine lv_lor hx hb0 dX1_byWhoever_41 ?_
        refine lv_topl (fun a_42 e_42 => ?_)
        replace hw := hw a_42 e_42
        refine lv_lstore (lv' := [(4, .long a_42), (0, .ref (ad b)), (1, .long v1), (3, .int v3), (6, .int v6)]) hx hb0 dX1_byWhoever_42 hl (by decide) rfl (fun ls hl => ?_)
        exact mX1_byWhoever_44 X hb post hret K4 hK4 K16 hK16 M_38 L_38 v1 v3 a_42 v6 _ _ ls hw hW (lv_sub hl [1, 2, 3, 0, 4] rfl)
set_option maxRecDepth 20000 in
set_option maxHeartbeats 4000000 in
theorem mX1_byWhoever_92 {p : Program} {l : Launch} {e : Env} {s : State} {m : MethodId} {args : Array Value} {below : List Frame} {meth : Method} {c : Code} {cells slots : Nat} {Q : State → Prop} {D : va_G} {cy : Nat → ClassId} {ad : Nat → Nat} {A : Nat → Prop} (X : zCx p rmX1_byWhoever s m args c cells slots cX1_byWhoever 7 RX1 D cy ad A) {b : Nat} (hb : isY b) (post : Int32 → Mm → Ml → Prop) (hret : zRi p l e rmX1_byWhoever s m args below meth c cells slots Q cX1_byWhoever D cy ad A .int post) (K64 : Mm → Ml → Int64 → Int32 → Int32 → Prop) (hK64 : ∀ (M : Mm) (L : Ml) (v1 : Int64) (v3 : Int32) (v4 : Int32) (H : Heap) (locs : List Loc) (ls : Array Slot), K64 M L v1 v3 v4 → zWd D cy ad A s H locs M L → lv_has ls 7 [(1, .long v1), (3, .int v3), (4, .int v4)] → W p l e rmX1_byWhoever s m args below meth c H locs cells slots Q (F0 m 64 ls [])) : ∀ (M : Mm) (L : Ml) (v1 : Int64) (v3 : Int32) (v4 : Int32) (H : Heap) (locs : List Loc) (ls : Array Slot), wpX1_byWhoever_92 b post K64 M L v1 v3 v4 → zWd D cy ad A s H locs M L → lv_has ls 7 [(1, .long v1), (3, .int v3), (4, .int v4)] → W p l e rmX1_byWhoever s m args below meth c H locs cells slots Q (F0 m 92 ls []) := by
  have hx := X.1.1; have hb0 := X.1.2.1; have hts := X.1.2.2.2.2
  intro M L v1 v3 v4 H locs ls hw hW hl
  unfold wpX1_byWhoever_92 at hw
  obtain ⟨a_92, e_92⟩ : ∃ y : Int32, y = v4 + (1 : Int32) := ⟨_, rfl⟩
  replace hw := hw a_92 e_92
  refine lv_iinc (v := a_92) (lv' := [(4, .int a_92), (1, .long v1), (3, .int v3)]) hx hb0 dX1_byWhoever_92 hl (k := 2) rfl (by rw [e_92]; rfl) (by decide) rfl (fun ls hl => ?_)
  refine lv_goto (tgt := 64) hx hb0 dX1_byWhoever_95 (by decide) ?_
  exact hK64 M L v1 v3 a_92 _ _ ls hw hW (lv_sub hl [1, 2, 0] rfl)
set_option maxRecDepth 20000 in
set_option maxHeartbeats 4000000 in
theorem mX1_byWhoever_64 {p : Program} {l : Launch} {e : Env} {s : State} {m : MethodId} {args : Array Value} {below : List Frame} {meth : Method} {c : Code} {cells slots : Nat} {Q : State → Prop} {D : va_G} {cy : Nat → ClassId} {ad : Nat → Nat} {A : Nat → Prop} (X : zCx p rmX1_byWhoever s m args c cells slots cX1_byWhoever 7 RX1 D cy ad A) {b : Nat} (hb : isY b) (post : Int32 → Mm → Ml → Prop) (hret : zRi p l e rmX1_byWhoever s m args below meth c cells slots Q cX1_byWhoever D cy ad A .int post) : ∀ (j9 : Nat) (M : Mm) (L : Ml) (v1 : Int64) (v3 : Int32) (v4 : Int32) (H : Heap) (locs : List Loc) (ls : Array Slot), wlX1_byWhoever_64 b post j9 (M, L, v1, v3, v4) → zWd D cy ad A s H locs M L → lv_has ls 7 [(1, .long v1), (3, .int v3), (4, .int v4)] → W p l e rmX1_byWhoever s m args below meth c H locs cells slots Q (F0 m 64 ls []) := by
  have hx := X.1.1; have hb0 := X.1.2.1; have hts := X.1.2.2.2.2
  intro j9
  induction j9 with
  | zero => intro M L v1 v3 v4 H locs ls hw; exact hw.elim
  | succ j9 ih =>
    obtain ⟨K64, hKe⟩ : ∃ K : Mm → Ml → Int64 → Int32 → Int32 → Prop, K = fun M L v1 v3 v4 => wlX1_byWhoever_64 b post j9 (M, L, v1, v3, v4) := ⟨_, rfl⟩
    have hK64 : ∀ (M : Mm) (L : Ml) (v1 : Int64) (v3 : Int32) (v4 : Int32) (H : Heap) (locs : List Loc) (ls : Array Slot), K64 M L v1 v3 v4 → zWd D cy ad A s H locs M L → lv_has ls 7 [(1, .long v1), (3, .int v3), (4, .int v4)] → W p l e rmX1_byWhoever s m args below meth c H locs cells slots Q (F0 m 64 ls []) := by intro M L v1 v3 v4 H locs ls hw; rw [hKe] at hw; exact ih M L v1 v3 v4 H locs ls hw
    intro M L v1 v3 v4 H locs ls hw hW hl
    have hw : wpX1_byWhoever_64 b post K64 M L v1 v3 v4 := by rw [hKe]; exact hw
    clear ih
    unfold wpX1_byWhoever_64 at hw
    refine lv_iload hx hb0 dX1_byWhoever_64 (lv_at hl 2 rfl) ?_
    refine lv_bipush (v := (64 : Int32)) hx hb0 dX1_byWhoever_66 (by decide) ?_
    refine lv_icmp_ge (tgt := 98) hx hb0 dX1_byWhoever_68 (by decide) (fun c_68 => ?_) (fun c_68 => ?_)
    · replace hw := hw.1 c_68
      refine lv_iload_n hx hb0 dX1_byWhoever_98 rfl (lv_at hl 1 rfl) ?_
      exact hret _ ls _ _ v3 M L dX1_byWhoever_99 rfl hw hW
    · replace hw := hw.2 c_68
      refine lv_lload_n hx hb0 dX1_byWhoever_71 rfl (lv_at hl 0 rfl) ?_
      refine lv_iload hx hb0 dX1_byWhoever_72 (lv_at hl 2 rfl) ?_
      refine lv_lshr hx hb0 dX1_byWhoever_74 rfl ?_
      refine lv_lconst (v := (1 : Int64)) hx hb0 dX1_byWhoever_75 (by decide) ?_
      refine lv_land hx hb0 dX1_byWhoever_76 ?_
      refine lv_lconst (v := (1 : Int64)) hx hb0 dX1_byWhoever_77 (by decide) ?_
      refine W.lcmp hx hb0 dX1_byWhoever_78 ?_
      refine lv_if_ne (tgt := 92) hx hb0 dX1_byWhoever_79 (by decide) (fun c_79 => ?_) (fun c_79 => ?_)
      · replace hw := hw.1 c_79
        exact mX1_byWhoever_92 X hb post hret K64 hK64 M L v1 v3 v4 _ _ ls hw hW (lv_sub hl [0, 1, 2] rfl)
      · replace hw := hw.2 c_79
        refine lv_iload_n hx hb0 dX1_byWhoever_82 rfl (lv_at hl 1 rfl) ?_
        refine lv_iload hx hb0 dX1_byWhoever_83 (lv_at hl 2 rfl) ?_
        refine z_Si X zc_J6_bitCount_0f7a4 zt_J6_bitCount_0f7a4 zl_X1_36 rfl ⟨rfl, rfl⟩ ⟨Nat.le_of_ble_eq_true rfl, Nat.le_of_ble_eq_true rfl⟩ (kJ6_bitCount_0f7a4 l D cy ad X.2.2.2.1 v4) hW hw hl.1 rfl rfl (Nat.le_of_ble_eq_true rfl) dX1_byWhoever_85 (fun r_85 M_85 L_85 H_85 locs_85 hw hW => ?_)
        refine va_mmax hx hb0 (X.1.2.2.1.trans hl.1.symm) X.1.2.2.2.1 (hts _ zl_X1_45) (hts _ zt_J9_max_7cf53) (hts _ zc_J9_max_7cf53.2.1) (hts _ zc_J9_max_7cf53.1) (Nat.le_of_ble_eq_true rfl) (Nat.le_of_ble_eq_true rfl) X.2.2.2.2.2.2.1 X.2.2.2.2.2.2.2 dX1_byWhoever_88 ?_
        refine lv_topi (fun a_91 e_91 => ?_)
        replace hw := hw a_91 e_91
        refine lv_istore_n (lv' := [(3, .int a_91), (1, .long v1), (4, .int v4)]) hx hb0 dX1_byWhoever_91 rfl hl (by decide) rfl (fun ls hl => ?_)
        exact mX1_byWhoever_92 X hb post hret K64 hK64 M_85 L_85 v1 a_91 v4 _ _ ls hw hW (lv_sub hl [1, 0, 2] rfl)
set_option maxRecDepth 20000 in
set_option maxHeartbeats 4000000 in
theorem mX1_byWhoever_4 {p : Program} {l : Launch} {e : Env} {s : State} {m : MethodId} {args : Array Value} {below : List Frame} {meth : Method} {c : Code} {cells slots : Nat} {Q : State → Prop} {D : va_G} {cy : Nat → ClassId} {ad : Nat → Nat} {A : Nat → Prop} (X : zCx p rmX1_byWhoever s m args c cells slots cX1_byWhoever 7 RX1 D cy ad A) {b : Nat} (hb : isY b) (post : Int32 → Mm → Ml → Prop) (hret : zRi p l e rmX1_byWhoever s m args below meth c cells slots Q cX1_byWhoever D cy ad A .int post) : ∀ (j9 : Nat) (M : Mm) (L : Ml) (v1 : Int64) (v3 : Int32) (H : Heap) (locs : List Loc) (ls : Array Slot), wlX1_byWhoever_4 b post j9 (M, L, v1, v3) → zWd D cy ad A s H locs M L → lv_has ls 7 [(0, .ref (ad b)), (1, .long v1), (3, .int v3)] → W p l e rmX1_byWhoever s m args below meth c H locs cells slots Q (F0 m 4 ls []) := by
  have hx := X.1.1; have hb0 := X.1.2.1; have hts := X.1.2.2.2.2
  intro j9
  induction j9 with
  | zero => intro M L v1 v3 H locs ls hw; exact hw.elim
  | succ j9 ih =>
    obtain ⟨K4, hKe⟩ : ∃ K : Mm → Ml → Int64 → Int32 → Prop, K = fun M L v1 v3 => wlX1_byWhoever_4 b post j9 (M, L, v1, v3) := ⟨_, rfl⟩
    have hK4 : ∀ (M : Mm) (L : Ml) (v1 : Int64) (v3 : Int32) (H : Heap) (locs : List Loc) (ls : Array Slot), K4 M L v1 v3 → zWd D cy ad A s H locs M L → lv_has ls 7 [(0, .ref (ad b)), (1, .long v1), (3, .int v3)] → W p l e rmX1_byWhoever s m args below meth c H locs cells slots Q (F0 m 4 ls []) := by intro M L v1 v3 H locs ls hw; rw [hKe] at hw; exact ih M L v1 v3 H locs ls hw
    intro M L v1 v3 H locs ls hw hW hl
    have hw : wpX1_byWhoever_4 b post K4 M L v1 v3 := by rw [hKe]; exact hw
    clear ih
    unfold wpX1_byWhoever_4 at hw
    refine lv_iload_n hx hb0 dX1_byWhoever_4 rfl (lv_at hl 2 rfl) ?_
    refine lv_bipush (v := (8 : Int32)) hx hb0 dX1_byWhoever_5 (by decide) ?_
    refine lv_icmp_ge (tgt := 59) hx hb0 dX1_byWhoever_7 (by decide) (fun c_7 => ?_) (fun c_7 => ?_)
    · replace hw := hw.1 c_7
      refine lv_iconst (v := (0 : Int32)) hx hb0 dX1_byWhoever_59 (by decide) ?_
      refine lv_istore_n (lv' := [(3, .int (0 : Int32)), (0, .ref (ad b)), (1, .long v1)]) hx hb0 dX1_byWhoever_60 rfl hl (by decide) rfl (fun ls hl => ?_)
      refine lv_iconst (v := (0 : Int32)) hx hb0 dX1_byWhoever_61 (by decide) ?_
      refine lv_istore (lv' := [(4, .int (0 : Int32)), (3, .int (0 : Int32)), (0, .ref (ad b)), (1, .long v1)]) hx hb0 dX1_byWhoever_62 hl (by decide) rfl (fun ls hl => ?_)
      obtain ⟨n_64, hw⟩ := hw
      exact mX1_byWhoever_64 X hb post hret n_64 M L v1 (0 : Int32) (0 : Int32) _ _ ls hw hW (lv_sub hl [3, 1, 0] rfl)
    · replace hw := hw.2 c_7
      refine lv_lload_n hx hb0 dX1_byWhoever_10 rfl (lv_at hl 1 rfl) ?_
      refine lv_lstore (lv' := [(4, .long v1), (0, .ref (ad b)), (1, .long v1), (3, .int v3)]) hx hb0 dX1_byWhoever_11 hl (by decide) rfl (fun ls hl => ?_)
      refine lv_iconst (v := (0 : Int32)) hx hb0 dX1_byWhoever_13 (by decide) ?_
      refine lv_istore (lv' := [(6, .int (0 : Int32)), (4, .long v1), (0, .ref (ad b)), (1, .long v1), (3, .int v3)]) hx hb0 dX1_byWhoever_14 hl (by decide) rfl (fun ls hl => ?_)
      obtain ⟨n_16, hw⟩ := hw
      exact mX1_byWhoever_16 X hb post hret K4 hK4 n_16 M L v1 v3 v1 (0 : Int32) _ _ ls hw hW (lv_sub hl [2, 3, 4, 1, 0] rfl)
set_option maxRecDepth 20000 in
set_option maxHeartbeats 4000000 in
theorem mX1_byWhoever {p : Program} {l : Launch} {e : Env} {s : State} {m : MethodId} {args : Array Value} {below : List Frame} {meth : Method} {c : Code} {cells slots : Nat} {Q : State → Prop} {D : va_G} {cy : Nat → ClassId} {ad : Nat → Nat} {A : Nat → Prop} (X : zCx p rmX1_byWhoever s m args c cells slots cX1_byWhoever 7 RX1 D cy ad A) {b : Nat} (hb : isY b) (post : Int32 → Mm → Ml → Prop) (hret : zRi p l e rmX1_byWhoever s m args below meth c cells slots Q cX1_byWhoever D cy ad A .int post) : ∀ (M : Mm) (L : Ml) (H : Heap) (locs : List Loc) (ls : Array Slot), wpX1_byWhoever b M L post → zWd D cy ad A s H locs M L → lv_has ls 7 [(0, .ref (ad b))] → W p l e rmX1_byWhoever s m args below meth c H locs cells slots Q (F0 m 0 ls []) := by
  have hx := X.1.1; have hb0 := X.1.2.1; have hts := X.1.2.2.2.2
  intro M L H locs ls hw hW hl
  unfold wpX1_byWhoever at hw
  refine lv_lconst (v := (1 : Int64)) hx hb0 dX1_byWhoever_0 (by decide) ?_
  refine lv_lstore_n (lv' := [(1, .long (1 : Int64)), (0, .ref (ad b))]) hx hb0 dX1_byWhoever_1 rfl hl (by decide) rfl (fun ls hl => ?_)
  refine lv_iconst (v := (0 : Int32)) hx hb0 dX1_byWhoever_2 (by decide) ?_
  refine lv_istore_n (lv' := [(3, .int (0 : Int32)), (1, .long (1 : Int64)), (0, .ref (ad b))]) hx hb0 dX1_byWhoever_3 rfl hl (by decide) rfl (fun ls hl => ?_)
  obtain ⟨n_4, hw⟩ := hw
  exact mX1_byWhoever_4 X hb post hret n_4 M L (1 : Int64) (0 : Int32) _ _ ls hw hW (lv_sub hl [2, 1, 0] rfl)
theorem kX1_byWhoever (l : Launch) (D : va_G) (cy : Nat → ClassId) (ad : Nat → Nat) (hi : zInj ad) {b : Nat} (hb : isY b) : zMi l yX1_byWhoever (.code yX1_byWhoever cX1_byWhoever 7 (some .int) :: zG) rmX1_byWhoever D cy ad [.ref (ad b)] (wpX1_byWhoever b) :=
  zMi_of (by decide +kernel) (Nat.le_of_ble_eq_true rfl) hi (fun X M L post _ hret ls hl hw hW => mX1_byWhoever X hb post hret M L _ _ ls hw hW hl)
abbrev rmX7_copy : Room := { frames := 1, cells := 0, slots := 0, locals := 80 }
set_option maxRecDepth 20000 in
set_option maxHeartbeats 4000000 in
theorem mX7_copy {p : Program} {l : Launch} {e : Env} {s : State} {m : MethodId} {args : Array Value} {below : List Frame} {meth : Method} {c : Code} {cells slots : Nat} {Q : State → Prop} {D : va_G} {cy : Nat → ClassId} {ad : Nat → Nat} {A : Nat → Prop} (X : zCx p rmX7_copy s m args c cells slots cX7_copy 2 RX7 D cy ad A) {b : Nat} {b2 : Nat} (hb : isY b) (hb2 : isY b2) (post : Mm → Ml → Prop) (hret : zRv p l e rmX7_copy s m args below meth c cells slots Q cX7_copy D cy ad A post) : ∀ (M : Mm) (L : Ml) (H : Heap) (locs : List Loc) (ls : Array Slot), wpX7_copy b b2 M L post → zWd D cy ad A s H locs M L → lv_has ls 2 [(0, .ref (ad b)), (1, .ref (ad b2))] → W p l e rmX7_copy s m args below meth c H locs cells slots Q (F0 m 0 ls []) := by
  have hx := X.1.1; have hb0 := X.1.2.1; have hts := X.1.2.2.2.2
  intro M L H locs ls hw hW hl
  unfold wpX7_copy at hw
  refine lv_aload_n hx hb0 dX7_copy_0 rfl (lv_at hl 0 rfl) ?_
  refine lv_aload_n hx hb0 dX7_copy_1 rfl (lv_at hl 1 rfl) ?_
  refine z_getI X hW zC5 (zFY_0 hb2) (by decide) rfl zl_X7_9 dX7_copy_2 ?_
  refine z_put (ty := .int) X hW zC5 (zFY_0 hb) (by decide) rfl zl_X7_9 rfl (by decide +kernel) rfl rfl dX7_copy_5 (fun M_5 H_5 locs_5 e_5 hW => ?_)
  replace hw := hw M_5 e_5
  refine lv_aload_n hx hb0 dX7_copy_8 rfl (lv_at hl 1 rfl) ?_
  refine z_getR (k2 := (b2 + 1)) X hW zC5 (zRY_1 hb2) (by decide) rfl zl_X7_15 dX7_copy_9 ?_
  refine lv_iconst (v := (0 : Int32)) hx hb0 dX7_copy_12 (by decide) ?_
  refine lv_aload_n hx hb0 dX7_copy_13 rfl (lv_at hl 0 rfl) ?_
  refine z_getR (k2 := (b + 1)) X hW zC5 (zRY_1 hb) (by decide) rfl zl_X7_15 dX7_copy_14 ?_
  refine lv_iconst (v := (0 : Int32)) hx hb0 dX7_copy_17 (by decide) ?_
  refine lv_bipush (v := (8 : Int32)) hx hb0 dX7_copy_18 (by decide) ?_
  refine z_copy X hW (zIY_1 hb2) (zIY_1 hb) (Nat.le_of_ble_eq_true rfl) rfl zl_X7_52 zw_native zw_nstat zw_nini hl.1 (Nat.le_of_ble_eq_true rfl) (Nat.le_of_ble_eq_true rfl) dX7_copy_20 (fun M_20 H_20 locs_20 e_20 hW => ?_)
  replace hw := hw M_20 e_20
  refine lv_aload_n hx hb0 dX7_copy_23 rfl (lv_at hl 1 rfl) ?_
  refine z_getR (k2 := (b2 + 2)) X hW zC5 (zRY_2 hb2) (by decide) rfl zl_X7_19 dX7_copy_24 ?_
  refine lv_iconst (v := (0 : Int32)) hx hb0 dX7_copy_27 (by decide) ?_
  refine lv_aload_n hx hb0 dX7_copy_28 rfl (lv_at hl 0 rfl) ?_
  refine z_getR (k2 := (b + 2)) X hW zC5 (zRY_2 hb) (by decide) rfl zl_X7_19 dX7_copy_29 ?_
  refine lv_iconst (v := (0 : Int32)) hx hb0 dX7_copy_32 (by decide) ?_
  refine lv_bipush (v := (8 : Int32)) hx hb0 dX7_copy_33 (by decide) ?_
  refine z_copy X hW (zIY_2 hb2) (zIY_2 hb) (Nat.le_of_ble_eq_true rfl) rfl zl_X7_52 zw_native zw_nstat zw_nini hl.1 (Nat.le_of_ble_eq_true rfl) (Nat.le_of_ble_eq_true rfl) dX7_copy_35 (fun M_35 H_35 locs_35 e_35 hW => ?_)
  replace hw := hw M_35 e_35
  refine lv_aload_n hx hb0 dX7_copy_38 rfl (lv_at hl 1 rfl) ?_
  refine z_getR (k2 := (b2 + 3)) X hW zC5 (zRY_3 hb2) (by decide) rfl zl_X7_22 dX7_copy_39 ?_
  refine lv_iconst (v := (0 : Int32)) hx hb0 dX7_copy_42 (by decide) ?_
  refine lv_aload_n hx hb0 dX7_copy_43 rfl (lv_at hl 0 rfl) ?_
  refine z_getR (k2 := (b + 3)) X hW zC5 (zRY_3 hb) (by decide) rfl zl_X7_22 dX7_copy_44 ?_
  refine lv_iconst (v := (0 : Int32)) hx hb0 dX7_copy_47 (by decide) ?_
  refine lv_bipush (v := (8 : Int32)) hx hb0 dX7_copy_48 (by decide) ?_
  refine z_copy X hW (zIY_3 hb2) (zIY_3 hb) (Nat.le_of_ble_eq_true rfl) rfl zl_X7_52 zw_native zw_nstat zw_nini hl.1 (Nat.le_of_ble_eq_true rfl) (Nat.le_of_ble_eq_true rfl) dX7_copy_50 (fun M_50 H_50 locs_50 e_50 hW => ?_)
  replace hw := hw M_50 e_50
  refine lv_aload_n hx hb0 dX7_copy_53 rfl (lv_at hl 1 rfl) ?_
  refine z_getR (k2 := (b2 + 4)) X hW zC5 (zRY_4 hb2) (by decide) rfl zl_X7_25 dX7_copy_54 ?_
  refine lv_iconst (v := (0 : Int32)) hx hb0 dX7_copy_57 (by decide) ?_
  refine lv_aload_n hx hb0 dX7_copy_58 rfl (lv_at hl 0 rfl) ?_
  refine z_getR (k2 := (b + 4)) X hW zC5 (zRY_4 hb) (by decide) rfl zl_X7_25 dX7_copy_59 ?_
  refine lv_iconst (v := (0 : Int32)) hx hb0 dX7_copy_62 (by decide) ?_
  refine lv_bipush (v := (8 : Int32)) hx hb0 dX7_copy_63 (by decide) ?_
  refine z_copy X hW (zIY_4 hb2) (zIY_4 hb) (Nat.le_of_ble_eq_true rfl) rfl zl_X7_52 zw_native zw_nstat zw_nini hl.1 (Nat.le_of_ble_eq_true rfl) (Nat.le_of_ble_eq_true rfl) dX7_copy_65 (fun M_65 H_65 locs_65 e_65 hW => ?_)
  replace hw := hw M_65 e_65
  refine lv_aload_n hx hb0 dX7_copy_68 rfl (lv_at hl 1 rfl) ?_
  refine z_getR (k2 := (b2 + 5)) X hW zC5 (zRY_5 hb2) (by decide) rfl zl_X7_28 dX7_copy_69 ?_
  refine lv_iconst (v := (0 : Int32)) hx hb0 dX7_copy_72 (by decide) ?_
  refine lv_aload_n hx hb0 dX7_copy_73 rfl (lv_at hl 0 rfl) ?_
  refine z_getR (k2 := (b + 5)) X hW zC5 (zRY_5 hb) (by decide) rfl zl_X7_28 dX7_copy_74 ?_
  refine lv_iconst (v := (0 : Int32)) hx hb0 dX7_copy_77 (by decide) ?_
  refine lv_bipush (v := (8 : Int32)) hx hb0 dX7_copy_78 (by decide) ?_
  refine z_copy X hW (zIY_5 hb2) (zIY_5 hb) (Nat.le_of_ble_eq_true rfl) rfl zl_X7_52 zw_native zw_nstat zw_nini hl.1 (Nat.le_of_ble_eq_true rfl) (Nat.le_of_ble_eq_true rfl) dX7_copy_80 (fun M_80 H_80 locs_80 e_80 hW => ?_)
  replace hw := hw M_80 e_80
  refine lv_aload_n hx hb0 dX7_copy_83 rfl (lv_at hl 1 rfl) ?_
  refine z_getR (k2 := (b2 + 6)) X hW zC5 (zRY_6 hb2) (by decide) rfl zl_X7_31 dX7_copy_84 ?_
  refine lv_iconst (v := (0 : Int32)) hx hb0 dX7_copy_87 (by decide) ?_
  refine lv_aload_n hx hb0 dX7_copy_88 rfl (lv_at hl 0 rfl) ?_
  refine z_getR (k2 := (b + 6)) X hW zC5 (zRY_6 hb) (by decide) rfl zl_X7_31 dX7_copy_89 ?_
  refine lv_iconst (v := (0 : Int32)) hx hb0 dX7_copy_92 (by decide) ?_
  refine lv_bipush (v := (6 : Int32)) hx hb0 dX7_copy_93 (by decide) ?_
  refine z_copy X hW (zIY_6 hb2) (zIY_6 hb) (Nat.le_of_ble_eq_true rfl) rfl zl_X7_52 zw_native zw_nstat zw_nini hl.1 (Nat.le_of_ble_eq_true rfl) (Nat.le_of_ble_eq_true rfl) dX7_copy_95 (fun M_95 H_95 locs_95 e_95 hW => ?_)
  replace hw := hw M_95 e_95
  refine lv_aload_n hx hb0 dX7_copy_98 rfl (lv_at hl 0 rfl) ?_
  refine lv_aload_n hx hb0 dX7_copy_99 rfl (lv_at hl 1 rfl) ?_
  refine z_getI X hW zC5 (zFY_7 hb2) (by decide) rfl zl_X7_34 dX7_copy_100 ?_
  refine z_put (ty := .int) X hW zC5 (zFY_7 hb) (by decide) rfl zl_X7_34 rfl (by decide +kernel) rfl rfl dX7_copy_103 (fun M_103 H_103 locs_103 e_103 hW => ?_)
  replace hw := hw M_103 e_103
  refine lv_aload_n hx hb0 dX7_copy_106 rfl (lv_at hl 0 rfl) ?_
  refine lv_aload_n hx hb0 dX7_copy_107 rfl (lv_at hl 1 rfl) ?_
  refine z_getI X hW zC5 (zFY_8 hb2) (by decide) rfl zl_X7_37 dX7_copy_108 ?_
  refine z_put (ty := .int) X hW zC5 (zFY_8 hb) (by decide) rfl zl_X7_37 rfl (by decide +kernel) rfl rfl dX7_copy_111 (fun M_111 H_111 locs_111 e_111 hW => ?_)
  replace hw := hw M_111 e_111
  refine lv_aload_n hx hb0 dX7_copy_114 rfl (lv_at hl 0 rfl) ?_
  refine lv_aload_n hx hb0 dX7_copy_115 rfl (lv_at hl 1 rfl) ?_
  refine z_getI X hW zC5 (zFY_9 hb2) (by decide) rfl zl_X7_40 dX7_copy_116 ?_
  refine z_put (ty := .int) X hW zC5 (zFY_9 hb) (by decide) rfl zl_X7_40 rfl (by decide +kernel) rfl rfl dX7_copy_119 (fun M_119 H_119 locs_119 e_119 hW => ?_)
  replace hw := hw M_119 e_119
  refine lv_aload_n hx hb0 dX7_copy_122 rfl (lv_at hl 0 rfl) ?_
  refine lv_aload_n hx hb0 dX7_copy_123 rfl (lv_at hl 1 rfl) ?_
  refine z_getI X hW zC5 (zFY_10 hb2) (by decide) rfl zl_X7_43 dX7_copy_124 ?_
  refine z_put (ty := .int) X hW zC5 (zFY_10 hb) (by decide) rfl zl_X7_43 rfl (by decide +kernel) rfl rfl dX7_copy_127 (fun M_127 H_127 locs_127 e_127 hW => ?_)
  replace hw := hw M_127 e_127
  refine lv_aload_n hx hb0 dX7_copy_130 rfl (lv_at hl 0 rfl) ?_
  refine lv_aload_n hx hb0 dX7_copy_131 rfl (lv_at hl 1 rfl) ?_
  refine z_getI X hW zC5 (zFY_11 hb2) (by decide) rfl zl_X7_46 dX7_copy_132 ?_
  refine z_put (ty := .int) X hW zC5 (zFY_11 hb) (by decide) rfl zl_X7_46 rfl (by decide +kernel) rfl rfl dX7_copy_135 (fun M_135 H_135 locs_135 e_135 hW => ?_)
  replace hw := hw M_135 e_135
  refine lv_aload_n hx hb0 dX7_copy_138 rfl (lv_at hl 0 rfl) ?_
  refine lv_aload_n hx hb0 dX7_copy_139 rfl (lv_at hl 1 rfl) ?_
  refine z_getI X hW zC5 (zFY_12 hb2) (by decide) rfl zl_X7_49 dX7_copy_140 ?_
  refine z_put (ty := .int) X hW zC5 (zFY_12 hb) (by decide) rfl zl_X7_49 rfl (by decide +kernel) rfl rfl dX7_copy_143 (fun M_143 H_143 locs_143 e_143 hW => ?_)
  replace hw := hw M_143 e_143
  exact hret _ ls _ _ M_143 L dX7_copy_146 hw hW
theorem kX7_copy (l : Launch) (D : va_G) (cy : Nat → ClassId) (ad : Nat → Nat) (hi : zInj ad) {b : Nat} {b2 : Nat} (hb : isY b) (hb2 : isY b2) : zMv l yX7_copy (.code yX7_copy cX7_copy 2 none :: zG) rmX7_copy D cy ad [.ref (ad b), .ref (ad b2)] (wpX7_copy b b2) :=
  zMv_of (by decide +kernel) (Nat.le_of_ble_eq_true rfl) hi (fun X M L post _ hret ls hl hw hW => mX7_copy X hb hb2 post hret M L _ _ ls hw hW hl)
abbrev rmX7_falling : Room := { frames := 0, cells := 0, slots := 0, locals := 0 }
set_option maxRecDepth 20000 in
set_option maxHeartbeats 4000000 in
theorem mX7_falling_25 {p : Program} {l : Launch} {e : Env} {s : State} {m : MethodId} {args : Array Value} {below : List Frame} {meth : Method} {c : Code} {cells slots : Nat} {Q : State → Prop} {D : va_G} {cy : Nat → ClassId} {ad : Nat → Nat} {A : Nat → Prop} (X : zCx p rmX7_falling s m args c cells slots cX7_falling 3 RX7 D cy ad A) {b : Nat} (hb : isY b) (post : Int32 → Mm → Ml → Prop) (hret : zRi p l e rmX7_falling s m args below meth c cells slots Q cX7_falling D cy ad A .int post) (K4 : Mm → Ml → Int32 → Int32 → Prop) (hK4 : ∀ (M : Mm) (L : Ml) (v1 : Int32) (v2 : Int32) (H : Heap) (locs : List Loc) (ls : Array Slot), K4 M L v1 v2 → zWd D cy ad A s H locs M L → lv_has ls 3 [(0, .ref (ad b)), (1, .int v1), (2, .int v2)] → W p l e rmX7_falling s m args below meth c H locs cells slots Q (F0 m 4 ls [])) : ∀ (M : Mm) (L : Ml) (v1 : Int32) (v2 : Int32) (H : Heap) (locs : List Loc) (ls : Array Slot), wpX7_falling_25 b post K4 M L v1 v2 → zWd D cy ad A s H locs M L → lv_has ls 3 [(0, .ref (ad b)), (1, .int v1), (2, .int v2)] → W p l e rmX7_falling s m args below meth c H locs cells slots Q (F0 m 25 ls []) := by
  have hx := X.1.1; have hb0 := X.1.2.1; have hts := X.1.2.2.2.2
  intro M L v1 v2 H locs ls hw hW hl
  unfold wpX7_falling_25 at hw
  obtain ⟨a_25, e_25⟩ : ∃ y : Int32, y = v2 + (1 : Int32) := ⟨_, rfl⟩
  replace hw := hw a_25 e_25
  refine lv_iinc (v := a_25) (lv' := [(2, .int a_25), (0, .ref (ad b)), (1, .int v1)]) hx hb0 dX7_falling_25 hl (k := 2) rfl (by rw [e_25]; rfl) (by decide) rfl (fun ls hl => ?_)
  refine lv_goto (tgt := 4) hx hb0 dX7_falling_28 (by decide) ?_
  exact hK4 M L v1 a_25 _ _ ls hw hW (lv_sub hl [1, 2, 0] rfl)
set_option maxRecDepth 20000 in
set_option maxHeartbeats 4000000 in
theorem mX7_falling_4 {p : Program} {l : Launch} {e : Env} {s : State} {m : MethodId} {args : Array Value} {below : List Frame} {meth : Method} {c : Code} {cells slots : Nat} {Q : State → Prop} {D : va_G} {cy : Nat → ClassId} {ad : Nat → Nat} {A : Nat → Prop} (X : zCx p rmX7_falling s m args c cells slots cX7_falling 3 RX7 D cy ad A) {b : Nat} (hb : isY b) (post : Int32 → Mm → Ml → Prop) (hret : zRi p l e rmX7_falling s m args below meth c cells slots Q cX7_falling D cy ad A .int post) : ∀ (j9 : Nat) (M : Mm) (L : Ml) (v1 : Int32) (v2 : Int32) (H : Heap) (locs : List Loc) (ls : Array Slot), wlX7_falling_4 b post j9 (M, L, v1, v2) → zWd D cy ad A s H locs M L → lv_has ls 3 [(0, .ref (ad b)), (1, .int v1), (2, .int v2)] → W p l e rmX7_falling s m args below meth c H locs cells slots Q (F0 m 4 ls []) := by
  have hx := X.1.1; have hb0 := X.1.2.1; have hts := X.1.2.2.2.2
  intro j9
  induction j9 with
  | zero => intro M L v1 v2 H locs ls hw; exact hw.elim
  | succ j9 ih =>
    obtain ⟨K4, hKe⟩ : ∃ K : Mm → Ml → Int32 → Int32 → Prop, K = fun M L v1 v2 => wlX7_falling_4 b post j9 (M, L, v1, v2) := ⟨_, rfl⟩
    have hK4 : ∀ (M : Mm) (L : Ml) (v1 : Int32) (v2 : Int32) (H : Heap) (locs : List Loc) (ls : Array Slot), K4 M L v1 v2 → zWd D cy ad A s H locs M L → lv_has ls 3 [(0, .ref (ad b)), (1, .int v1), (2, .int v2)] → W p l e rmX7_falling s m args below meth c H locs cells slots Q (F0 m 4 ls []) := by intro M L v1 v2 H locs ls hw; rw [hKe] at hw; exact ih M L v1 v2 H locs ls hw
    intro M L v1 v2 H locs ls hw hW hl
    have hw : wpX7_falling_4 b post K4 M L v1 v2 := by rw [hKe]; exact hw
    clear ih
    unfold wpX7_falling_4 at hw
    refine lv_iload_n hx hb0 dX7_falling_4 rfl (lv_at hl 2 rfl) ?_
    refine lv_bipush (v := (8 : Int32)) hx hb0 dX7_falling_5 (by decide) ?_
    refine lv_icmp_ge (tgt := 31) hx hb0 dX7_falling_7 (by decide) (fun c_7 => ?_) (fun c_7 => ?_)
    · replace hw := hw.1 c_7
      refine lv_iload_n hx hb0 dX7_falling_31 rfl (lv_at hl 1 rfl) ?_
      exact hret _ ls _ _ v1 M L dX7_falling_32 rfl hw hW
    · replace hw := hw.2 c_7
      refine lv_aload_n hx hb0 dX7_falling_10 rfl (lv_at hl 0 rfl) ?_
      refine z_getR (k2 := (b + 3)) X hW zC5 (zRY_3 hb) (by decide) rfl zl_X7_22 dX7_falling_11 ?_
      refine lv_iload_n hx hb0 dX7_falling_14 rfl (lv_at hl 2 rfl) ?_
      obtain ⟨g_15, hw⟩ := hw
      refine z_iald X hW (zIY_3 hb) g_15 dX7_falling_15 ?_
      refine lv_if_le (tgt := 25) hx hb0 dX7_falling_16 (by decide) (fun c_16 => ?_) (fun c_16 => ?_)
      · replace hw := hw.1 c_16
        exact mX7_falling_25 X hb post hret K4 hK4 M L v1 v2 _ _ ls hw hW (lv_sub hl [0, 1, 2] rfl)
      · replace hw := hw.2 c_16
        refine lv_iload_n hx hb0 dX7_falling_19 rfl (lv_at hl 1 rfl) ?_
        refine lv_iconst (v := (1 : Int32)) hx hb0 dX7_falling_20 (by decide) ?_
        refine lv_iload_n hx hb0 dX7_falling_21 rfl (lv_at hl 2 rfl) ?_
        refine lv_ishl hx hb0 dX7_falling_22 ?_
        refine lv_ior hx hb0 dX7_falling_23 ?_
        refine lv_topi (fun a_24 e_24 => ?_)
        replace hw := hw a_24 e_24
        refine lv_istore_n (lv' := [(1, .int a_24), (0, .ref (ad b)), (2, .int v2)]) hx hb0 dX7_falling_24 rfl hl (by decide) rfl (fun ls hl => ?_)
        exact mX7_falling_25 X hb post hret K4 hK4 M L a_24 v2 _ _ ls hw hW (lv_sub hl [1, 0, 2] rfl)
set_option maxRecDepth 20000 in
set_option maxHeartbeats 4000000 in
theorem mX7_falling {p : Program} {l : Launch} {e : Env} {s : State} {m : MethodId} {args : Array Value} {below : List Frame} {meth : Method} {c : Code} {cells slots : Nat} {Q : State → Prop} {D : va_G} {cy : Nat → ClassId} {ad : Nat → Nat} {A : Nat → Prop} (X : zCx p rmX7_falling s m args c cells slots cX7_falling 3 RX7 D cy ad A) {b : Nat} (hb : isY b) (post : Int32 → Mm → Ml → Prop) (hret : zRi p l e rmX7_falling s m args below meth c cells slots Q cX7_falling D cy ad A .int post) : ∀ (M : Mm) (L : Ml) (H : Heap) (locs : List Loc) (ls : Array Slot), wpX7_falling b M L post → zWd D cy ad A s H locs M L → lv_has ls 3 [(0, .ref (ad b))] → W p l e rmX7_falling s m args below meth c H locs cells slots Q (F0 m 0 ls []) := by
  have hx := X.1.1; have hb0 := X.1.2.1; have hts := X.1.2.2.2.2
  intro M L H locs ls hw hW hl
  unfold wpX7_falling at hw
  refine lv_iconst (v := (0 : Int32)) hx hb0 dX7_falling_0 (by decide) ?_
  refine lv_istore_n (lv' := [(1, .int (0 : Int32)), (0, .ref (ad b))]) hx hb0 dX7_falling_1 rfl hl (by decide) rfl (fun ls hl => ?_)
  refine lv_iconst (v := (0 : Int32)) hx hb0 dX7_falling_2 (by decide) ?_
  refine lv_istore_n (lv' := [(2, .int (0 : Int32)), (1, .int (0 : Int32)), (0, .ref (ad b))]) hx hb0 dX7_falling_3 rfl hl (by decide) rfl (fun ls hl => ?_)
  obtain ⟨n_4, hw⟩ := hw
  exact mX7_falling_4 X hb post hret n_4 M L (0 : Int32) (0 : Int32) _ _ ls hw hW (lv_sub hl [2, 1, 0] rfl)
theorem kX7_falling (l : Launch) (D : va_G) (cy : Nat → ClassId) (ad : Nat → Nat) (hi : zInj ad) {b : Nat} (hb : isY b) : zMi l yX7_falling (.code yX7_falling cX7_falling 3 (some .int) :: zG) rmX7_falling D cy ad [.ref (ad b)] (wpX7_falling b) :=
  zMi_of (by decide +kernel) (Nat.le_of_ble_eq_true rfl) hi (fun X M L post _ hret ls hl hw hW => mX7_falling X hb post hret M L _ _ ls hw hW hl)
abbrev rmX7_inRiver : Room := { frames := 0, cells := 0, slots := 0, locals := 0 }
set_option maxRecDepth 20000 in
set_option maxHeartbeats 4000000 in
theorem mX7_inRiver_27 {p : Program} {l : Launch} {e : Env} {s : State} {m : MethodId} {args : Array Value} {below : List Frame} {meth : Method} {c : Code} {cells slots : Nat} {Q : State → Prop} {D : va_G} {cy : Nat → ClassId} {ad : Nat → Nat} {A : Nat → Prop} (X : zCx p rmX7_inRiver s m args c cells slots cX7_inRiver 3 RX7 D cy ad A) {b : Nat} (hb : isY b) (post : Int32 → Mm → Ml → Prop) (hret : zRi p l e rmX7_inRiver s m args below meth c cells slots Q cX7_inRiver D cy ad A .int post) (K4 : Mm → Ml → Int32 → Int32 → Prop) (hK4 : ∀ (M : Mm) (L : Ml) (v1 : Int32) (v2 : Int32) (H : Heap) (locs : List Loc) (ls : Array Slot), K4 M L v1 v2 → zWd D cy ad A s H locs M L → lv_has ls 3 [(0, .ref (ad b)), (1, .int v1), (2, .int v2)] → W p l e rmX7_inRiver s m args below meth c H locs cells slots Q (F0 m 4 ls [])) : ∀ (M : Mm) (L : Ml) (v1 : Int32) (v2 : Int32) (H : Heap) (locs : List Loc) (ls : Array Slot), wpX7_inRiver_27 b post K4 M L v1 v2 → zWd D cy ad A s H locs M L → lv_has ls 3 [(0, .ref (ad b)), (1, .int v1), (2, .int v2)] → W p l e rmX7_inRiver s m args below meth c H locs cells slots Q (F0 m 27 ls []) := by
  have hx := X.1.1; have hb0 := X.1.2.1; have hts := X.1.2.2.2.2
  intro M L v1 v2 H locs ls hw hW hl
  unfold wpX7_inRiver_27 at hw
  obtain ⟨a_27, e_27⟩ : ∃ y : Int32, y = v2 + (1 : Int32) := ⟨_, rfl⟩
  replace hw := hw a_27 e_27
  refine lv_iinc (v := a_27) (lv' := [(2, .int a_27), (0, .ref (ad b)), (1, .int v1)]) hx hb0 dX7_inRiver_27 hl (k := 2) rfl (by rw [e_27]; rfl) (by decide) rfl (fun ls hl => ?_)
  refine lv_goto (tgt := 4) hx hb0 dX7_inRiver_30 (by decide) ?_
  exact hK4 M L v1 a_27 _ _ ls hw hW (lv_sub hl [1, 2, 0] rfl)
set_option maxRecDepth 20000 in
set_option maxHeartbeats 4000000 in
theorem mX7_inRiver_4 {p : Program} {l : Launch} {e : Env} {s : State} {m : MethodId} {args : Array Value} {below : List Frame} {meth : Method} {c : Code} {cells slots : Nat} {Q : State → Prop} {D : va_G} {cy : Nat → ClassId} {ad : Nat → Nat} {A : Nat → Prop} (X : zCx p rmX7_inRiver s m args c cells slots cX7_inRiver 3 RX7 D cy ad A) {b : Nat} (hb : isY b) (post : Int32 → Mm → Ml → Prop) (hret : zRi p l e rmX7_inRiver s m args below meth c cells slots Q cX7_inRiver D cy ad A .int post) : ∀ (j9 : Nat) (M : Mm) (L : Ml) (v1 : Int32) (v2 : Int32) (H : Heap) (locs : List Loc) (ls : Array Slot), wlX7_inRiver_4 b post j9 (M, L, v1, v2) → zWd D cy ad A s H locs M L → lv_has ls 3 [(0, .ref (ad b)), (1, .int v1), (2, .int v2)] → W p l e rmX7_inRiver s m args below meth c H locs cells slots Q (F0 m 4 ls []) := by
  have hx := X.1.1; have hb0 := X.1.2.1; have hts := X.1.2.2.2.2
  intro j9
  induction j9 with
  | zero => intro M L v1 v2 H locs ls hw; exact hw.elim
  | succ j9 ih =>
    obtain ⟨K4, hKe⟩ : ∃ K : Mm → Ml → Int32 → Int32 → Prop, K = fun M L v1 v2 => wlX7_inRiver_4 b post j9 (M, L, v1, v2) := ⟨_, rfl⟩
    have hK4 : ∀ (M : Mm) (L : Ml) (v1 : Int32) (v2 : Int32) (H : Heap) (locs : List Loc) (ls : Array Slot), K4 M L v1 v2 → zWd D cy ad A s H locs M L → lv_has ls 3 [(0, .ref (ad b)), (1, .int v1), (2, .int v2)] → W p l e rmX7_inRiver s m args below meth c H locs cells slots Q (F0 m 4 ls []) := by intro M L v1 v2 H locs ls hw; rw [hKe] at hw; exact ih M L v1 v2 H locs ls hw
    intro M L v1 v2 H locs ls hw hW hl
    have hw : wpX7_inRiver_4 b post K4 M L v1 v2 := by rw [hKe]; exact hw
    clear ih
    unfold wpX7_inRiver_4 at hw
    refine lv_iload_n hx hb0 dX7_inRiver_4 rfl (lv_at hl 2 rfl) ?_
    refine lv_bipush (v := (8 : Int32)) hx hb0 dX7_inRiver_5 (by decide) ?_
    refine lv_icmp_ge (tgt := 33) hx hb0 dX7_inRiver_7 (by decide) (fun c_7 => ?_) (fun c_7 => ?_)
    · replace hw := hw.1 c_7
      refine lv_iload_n hx hb0 dX7_inRiver_33 rfl (lv_at hl 1 rfl) ?_
      refine lv_aload_n hx hb0 dX7_inRiver_34 rfl (lv_at hl 0 rfl) ?_
      refine z_getI X hW zC5 (zFY_0 hb) (by decide) rfl zl_X7_9 dX7_inRiver_35 ?_
      refine lv_iand hx hb0 dX7_inRiver_38 ?_
      exact hret _ ls _ _ (v1 &&& (M b 0)) M L dX7_inRiver_39 rfl hw hW
    · replace hw := hw.2 c_7
      refine lv_aload_n hx hb0 dX7_inRiver_10 rfl (lv_at hl 0 rfl) ?_
      refine z_getR (k2 := (b + 2)) X hW zC5 (zRY_2 hb) (by decide) rfl zl_X7_19 dX7_inRiver_11 ?_
      refine lv_iload_n hx hb0 dX7_inRiver_14 rfl (lv_at hl 2 rfl) ?_
      obtain ⟨g_15, hw⟩ := hw
      refine z_iald X hW (zIY_2 hb) g_15 dX7_inRiver_15 ?_
      refine lv_bipush (v := (-6 : Int32)) hx hb0 dX7_inRiver_16 (by decide) ?_
      refine lv_icmp_ne (tgt := 27) hx hb0 dX7_inRiver_18 (by decide) (fun c_18 => ?_) (fun c_18 => ?_)
      · replace hw := hw.1 c_18
        exact mX7_inRiver_27 X hb post hret K4 hK4 M L v1 v2 _ _ ls hw hW (lv_sub hl [0, 1, 2] rfl)
      · replace hw := hw.2 c_18
        refine lv_iload_n hx hb0 dX7_inRiver_21 rfl (lv_at hl 1 rfl) ?_
        refine lv_iconst (v := (1 : Int32)) hx hb0 dX7_inRiver_22 (by decide) ?_
        refine lv_iload_n hx hb0 dX7_inRiver_23 rfl (lv_at hl 2 rfl) ?_
        refine lv_ishl hx hb0 dX7_inRiver_24 ?_
        refine lv_ior hx hb0 dX7_inRiver_25 ?_
        refine lv_topi (fun a_26 e_26 => ?_)
        replace hw := hw a_26 e_26
        refine lv_istore_n (lv' := [(1, .int a_26), (0, .ref (ad b)), (2, .int v2)]) hx hb0 dX7_inRiver_26 rfl hl (by decide) rfl (fun ls hl => ?_)
        exact mX7_inRiver_27 X hb post hret K4 hK4 M L a_26 v2 _ _ ls hw hW (lv_sub hl [1, 0, 2] rfl)
set_option maxRecDepth 20000 in
set_option maxHeartbeats 4000000 in
theorem mX7_inRiver {p : Program} {l : Launch} {e : Env} {s : State} {m : MethodId} {args : Array Value} {below : List Frame} {meth : Method} {c : Code} {cells slots : Nat} {Q : State → Prop} {D : va_G} {cy : Nat → ClassId} {ad : Nat → Nat} {A : Nat → Prop} (X : zCx p rmX7_inRiver s m args c cells slots cX7_inRiver 3 RX7 D cy ad A) {b : Nat} (hb : isY b) (post : Int32 → Mm → Ml → Prop) (hret : zRi p l e rmX7_inRiver s m args below meth c cells slots Q cX7_inRiver D cy ad A .int post) : ∀ (M : Mm) (L : Ml) (H : Heap) (locs : List Loc) (ls : Array Slot), wpX7_inRiver b M L post → zWd D cy ad A s H locs M L → lv_has ls 3 [(0, .ref (ad b))] → W p l e rmX7_inRiver s m args below meth c H locs cells slots Q (F0 m 0 ls []) := by
  have hx := X.1.1; have hb0 := X.1.2.1; have hts := X.1.2.2.2.2
  intro M L H locs ls hw hW hl
  unfold wpX7_inRiver at hw
  refine lv_iconst (v := (0 : Int32)) hx hb0 dX7_inRiver_0 (by decide) ?_
  refine lv_istore_n (lv' := [(1, .int (0 : Int32)), (0, .ref (ad b))]) hx hb0 dX7_inRiver_1 rfl hl (by decide) rfl (fun ls hl => ?_)
  refine lv_iconst (v := (0 : Int32)) hx hb0 dX7_inRiver_2 (by decide) ?_
  refine lv_istore_n (lv' := [(2, .int (0 : Int32)), (1, .int (0 : Int32)), (0, .ref (ad b))]) hx hb0 dX7_inRiver_3 rfl hl (by decide) rfl (fun ls hl => ?_)
  obtain ⟨n_4, hw⟩ := hw
  exact mX7_inRiver_4 X hb post hret n_4 M L (0 : Int32) (0 : Int32) _ _ ls hw hW (lv_sub hl [2, 1, 0] rfl)
theorem kX7_inRiver (l : Launch) (D : va_G) (cy : Nat → ClassId) (ad : Nat → Nat) (hi : zInj ad) {b : Nat} (hb : isY b) : zMi l yX7_inRiver (.code yX7_inRiver cX7_inRiver 3 (some .int) :: zG) rmX7_inRiver D cy ad [.ref (ad b)] (wpX7_inRiver b) :=
  zMi_of (by decide +kernel) (Nat.le_of_ble_eq_true rfl) hi (fun X M L post _ hret ls hl hw hW => mX7_inRiver X hb post hret M L _ _ ls hw hW hl)
abbrev rmX7_down : Room := { frames := 1, cells := 0, slots := 0, locals := 22 }
set_option maxRecDepth 20000 in
set_option maxHeartbeats 4000000 in
theorem mX7_down {p : Program} {l : Launch} {e : Env} {s : State} {m : MethodId} {args : Array Value} {below : List Frame} {meth : Method} {c : Code} {cells slots : Nat} {Q : State → Prop} {D : va_G} {cy : Nat → ClassId} {ad : Nat → Nat} {A : Nat → Prop} (X : zCx p rmX7_down s m args c cells slots cX7_down 1 RX7 D cy ad A) {b : Nat} (hb : isY b) (post : Int32 → Mm → Ml → Prop) (hret : zRi p l e rmX7_down s m args below meth c cells slots Q cX7_down D cy ad A .int post) : ∀ (M : Mm) (L : Ml) (H : Heap) (locs : List Loc) (ls : Array Slot), wpX7_down b M L post → zWd D cy ad A s H locs M L → lv_has ls 1 [(0, .ref (ad b))] → W p l e rmX7_down s m args below meth c H locs cells slots Q (F0 m 0 ls []) := by
  have hx := X.1.1; have hb0 := X.1.2.1; have hts := X.1.2.2.2.2
  intro M L H locs ls hw hW hl
  unfold wpX7_down at hw
  refine lv_aload_n hx hb0 dX7_down_0 rfl (lv_at hl 0 rfl) ?_
  refine z_getI X hW zC5 (zFY_0 hb) (by decide) rfl zl_X7_9 dX7_down_1 ?_
  refine lv_aload_n hx hb0 dX7_down_4 rfl (lv_at hl 0 rfl) ?_
  refine z_Vi X (zOY hb) zC5 zc_X7_falling zs_X7_falling zl_X7_66 rfl ⟨rfl, rfl⟩ ⟨Nat.le_of_ble_eq_true rfl, Nat.le_of_ble_eq_true rfl⟩ (kX7_falling l D cy ad X.2.2.2.1 hb) hW hw hl.1 rfl rfl (Nat.le_of_ble_eq_true rfl) dX7_down_5 (fun r_5 M_5 L_5 H_5 locs_5 hw hW => ?_)
  refine lv_iconst (v := (-1 : Int32)) hx hb0 dX7_down_8 (by decide) ?_
  refine lv_ixor hx hb0 dX7_down_9 ?_
  refine lv_iand hx hb0 dX7_down_10 ?_
  refine lv_aload_n hx hb0 dX7_down_11 rfl (lv_at hl 0 rfl) ?_
  refine z_Vi X (zOY hb) zC5 zc_X7_inRiver zs_X7_inRiver zl_X7_70 rfl ⟨rfl, rfl⟩ ⟨Nat.le_of_ble_eq_true rfl, Nat.le_of_ble_eq_true rfl⟩ (kX7_inRiver l D cy ad X.2.2.2.1 hb) hW hw hl.1 rfl rfl (Nat.le_of_ble_eq_true rfl) dX7_down_12 (fun r_12 M_12 L_12 H_12 locs_12 hw hW => ?_)
  refine lv_iconst (v := (-1 : Int32)) hx hb0 dX7_down_15 (by decide) ?_
  refine lv_ixor hx hb0 dX7_down_16 ?_
  refine lv_iand hx hb0 dX7_down_17 ?_
  exact hret _ ls _ _ (((M b 0) &&& (r_5 ^^^ (-1 : Int32))) &&& (r_12 ^^^ (-1 : Int32))) M_12 L_12 dX7_down_18 rfl hw hW
theorem kX7_down (l : Launch) (D : va_G) (cy : Nat → ClassId) (ad : Nat → Nat) (hi : zInj ad) {b : Nat} (hb : isY b) : zMi l yX7_down (.code yX7_down cX7_down 1 (some .int) :: zG) rmX7_down D cy ad [.ref (ad b)] (wpX7_down b) :=
  zMi_of (by decide +kernel) (Nat.le_of_ble_eq_true rfl) hi (fun X M L post _ hret ls hl hw hW => mX7_down X hb post hret M L _ _ ls hw hW hl)
abbrev rmX2_begin : Room := { frames := 2, cells := 0, slots := 0, locals := 101 }
set_option maxRecDepth 20000 in
set_option maxHeartbeats 4000000 in
theorem mX2_begin {p : Program} {l : Launch} {e : Env} {s : State} {m : MethodId} {args : Array Value} {below : List Frame} {meth : Method} {c : Code} {cells slots : Nat} {Q : State → Prop} {D : va_G} {cy : Nat → ClassId} {ad : Nat → Nat} {A : Nat → Prop} (X : zCx p rmX2_begin s m args c cells slots cX2_begin 2 RX2 D cy ad A) {b : Nat} (hb : isY b) (post : Mm → Ml → Prop) (hret : zRv p l e rmX2_begin s m args below meth c cells slots Q cX2_begin D cy ad A post) : ∀ (M : Mm) (L : Ml) (H : Heap) (locs : List Loc) (ls : Array Slot), wpX2_begin b M L post → zWd D cy ad A s H locs M L → lv_has ls 2 [(0, .ref (ad 6)), (1, .ref (ad b))] → W p l e rmX2_begin s m args below meth c H locs cells slots Q (F0 m 0 ls []) := by
  have hx := X.1.1; have hb0 := X.1.2.1; have hts := X.1.2.2.2.2
  intro M L H locs ls hw hW hl
  unfold wpX2_begin at hw
  refine lv_aload_n hx hb0 dX2_begin_0 rfl (lv_at hl 0 rfl) ?_
  refine z_getR (k2 := 35) X hW zC1 zR_6_0 (by decide) rfl zl_X2_12 dX2_begin_1 ?_
  refine lv_aload_n hx hb0 dX2_begin_4 rfl (lv_at hl 1 rfl) ?_
  refine z_VNv X (zOY isY_35) zC5 zc_X7_copy zs_X7_copy zn_X2_59 rfl ⟨rfl, rfl⟩ ⟨Nat.le_of_ble_eq_true rfl, Nat.le_of_ble_eq_true rfl⟩ (kX7_copy l D cy ad X.2.2.2.1 isY_35 hb) hW hw hl.1 rfl rfl (Nat.le_of_ble_eq_true rfl) dX2_begin_5 (fun M_5 L_5 H_5 locs_5 hw hW => ?_)
  refine lv_aload_n hx hb0 dX2_begin_8 rfl (lv_at hl 0 rfl) ?_
  refine lv_bipush (v := (-6 : Int32)) hx hb0 dX2_begin_9 (by decide) ?_
  refine z_put (ty := .int) X hW zC1 zF_6_1 (by decide) rfl zl_X2_18 rfl (by decide +kernel) rfl rfl dX2_begin_11 (fun M_11 H_11 locs_11 e_11 hW => ?_)
  replace hw := hw M_11 e_11
  refine lv_aload_n hx hb0 dX2_begin_14 rfl (lv_at hl 0 rfl) ?_
  refine lv_bipush (v := (-6 : Int32)) hx hb0 dX2_begin_15 (by decide) ?_
  refine z_put (ty := .int) X hW zC1 zF_6_2 (by decide) rfl zl_X2_22 rfl (by decide +kernel) rfl rfl dX2_begin_17 (fun M_17 H_17 locs_17 e_17 hW => ?_)
  replace hw := hw M_17 e_17
  refine lv_aload_n hx hb0 dX2_begin_20 rfl (lv_at hl 0 rfl) ?_
  refine lv_bipush (v := (-6 : Int32)) hx hb0 dX2_begin_21 (by decide) ?_
  refine z_put (ty := .int) X hW zC1 zF_6_3 (by decide) rfl zl_X2_25 rfl (by decide +kernel) rfl rfl dX2_begin_23 (fun M_23 H_23 locs_23 e_23 hW => ?_)
  replace hw := hw M_23 e_23
  refine lv_aload_n hx hb0 dX2_begin_26 rfl (lv_at hl 0 rfl) ?_
  refine lv_aload_n hx hb0 dX2_begin_27 rfl (lv_at hl 0 rfl) ?_
  refine z_getR (k2 := 35) X hW zC1 zR_6_0 (by decide) rfl zl_X2_12 dX2_begin_28 ?_
  refine z_VNi X (zOY isY_35) zC5 zc_X7_down zs_X7_down zn_X2_62 rfl ⟨rfl, rfl⟩ ⟨Nat.le_of_ble_eq_true rfl, Nat.le_of_ble_eq_true rfl⟩ (kX7_down l D cy ad X.2.2.2.1 isY_35) hW hw hl.1 rfl rfl (Nat.le_of_ble_eq_true rfl) dX2_begin_31 (fun r_31 M_31 L_31 H_31 locs_31 hw hW => ?_)
  refine z_put (ty := .int) X hW zC1 zF_6_4 (by decide) rfl zl_X2_28 rfl (by decide +kernel) rfl rfl dX2_begin_34 (fun M_34 H_34 locs_34 e_34 hW => ?_)
  replace hw := hw M_34 e_34
  exact hret _ ls _ _ M_34 L_31 dX2_begin_37 hw hW
theorem kX2_begin (l : Launch) (D : va_G) (cy : Nat → ClassId) (ad : Nat → Nat) (hi : zInj ad) {b : Nat} (hb : isY b) : zMv l yX2_begin (.code yX2_begin cX2_begin 2 none :: zG) rmX2_begin D cy ad [.ref (ad 6), .ref (ad b)] (wpX2_begin b) :=
  zMv_of (by decide +kernel) (Nat.le_of_ble_eq_true rfl) hi (fun X M L post _ hret ls hl hw hW => mX2_begin X hb post hret M L _ _ ls hw hW hl)
abbrev rmX8_isBelow : Room := { frames := 0, cells := 0, slots := 0, locals := 0 }
set_option maxRecDepth 20000 in
set_option maxHeartbeats 4000000 in
theorem mX8_isBelow_14 {p : Program} {l : Launch} {e : Env} {s : State} {m : MethodId} {args : Array Value} {below : List Frame} {meth : Method} {c : Code} {cells slots : Nat} {Q : State → Prop} {D : va_G} {cy : Nat → ClassId} {ad : Nat → Nat} {A : Nat → Prop} (X : zCx p rmX8_isBelow s m args c cells slots cX8_isBelow 2 RX8 D cy ad A) (post : Int32 → Mm → Ml → Prop) (hret : zRi p l e rmX8_isBelow s m args below meth c cells slots Q cX8_isBelow D cy ad A .boolean post) : ∀ (M : Mm) (L : Ml) (s0 : Int32) (H : Heap) (locs : List Loc) (ls : Array Slot), wpX8_isBelow_14 post M L s0 → zWd D cy ad A s H locs M L → lv_has ls 2 [] → W p l e rmX8_isBelow s m args below meth c H locs cells slots Q (F0 m 14 ls [.int s0]) := by
  have hx := X.1.1; have hb0 := X.1.2.1; have hts := X.1.2.2.2.2
  intro M L s0 H locs ls hw hW hl
  unfold wpX8_isBelow_14 at hw
  exact hret _ ls _ _ s0 M L dX8_isBelow_14 (z_bool hw.1) hw.2 hW
set_option maxRecDepth 20000 in
set_option maxHeartbeats 4000000 in
theorem mX8_isBelow_13 {p : Program} {l : Launch} {e : Env} {s : State} {m : MethodId} {args : Array Value} {below : List Frame} {meth : Method} {c : Code} {cells slots : Nat} {Q : State → Prop} {D : va_G} {cy : Nat → ClassId} {ad : Nat → Nat} {A : Nat → Prop} (X : zCx p rmX8_isBelow s m args c cells slots cX8_isBelow 2 RX8 D cy ad A) (post : Int32 → Mm → Ml → Prop) (hret : zRi p l e rmX8_isBelow s m args below meth c cells slots Q cX8_isBelow D cy ad A .boolean post) : ∀ (M : Mm) (L : Ml) (H : Heap) (locs : List Loc) (ls : Array Slot), wpX8_isBelow_13 post M L → zWd D cy ad A s H locs M L → lv_has ls 2 [] → W p l e rmX8_isBelow s m args below meth c H locs cells slots Q (F0 m 13 ls []) := by
  have hx := X.1.1; have hb0 := X.1.2.1; have hts := X.1.2.2.2.2
  intro M L H locs ls hw hW hl
  unfold wpX8_isBelow_13 at hw
  refine lv_iconst (v := (0 : Int32)) hx hb0 dX8_isBelow_13 (by decide) ?_
  exact mX8_isBelow_14 X post hret M L (0 : Int32) _ _ ls hw hW (lv_sub hl [] rfl)
set_option maxRecDepth 20000 in
set_option maxHeartbeats 4000000 in
theorem mX8_isBelow {p : Program} {l : Launch} {e : Env} {s : State} {m : MethodId} {args : Array Value} {below : List Frame} {meth : Method} {c : Code} {cells slots : Nat} {Q : State → Prop} {D : va_G} {cy : Nat → ClassId} {ad : Nat → Nat} {A : Nat → Prop} (X : zCx p rmX8_isBelow s m args c cells slots cX8_isBelow 2 RX8 D cy ad A) (post : Int32 → Mm → Ml → Prop) (hret : zRi p l e rmX8_isBelow s m args below meth c cells slots Q cX8_isBelow D cy ad A .boolean post) : ∀ (M : Mm) (L : Ml) (x1 : Int32) (x2 : Int32) (H : Heap) (locs : List Loc) (ls : Array Slot), wpX8_isBelow x1 x2 M L post → zWd D cy ad A s H locs M L → lv_has ls 2 [(0, .int x1), (1, .int x2)] → W p l e rmX8_isBelow s m args below meth c H locs cells slots Q (F0 m 0 ls []) := by
  have hx := X.1.1; have hb0 := X.1.2.1; have hts := X.1.2.2.2.2
  intro M L x1 x2 H locs ls hw hW hl
  unfold wpX8_isBelow at hw
  refine lv_iload_n hx hb0 dX8_isBelow_0 rfl (lv_at hl 0 rfl) ?_
  refine lv_if_lt (tgt := 13) hx hb0 dX8_isBelow_1 (by decide) (fun c_1 => ?_) (fun c_1 => ?_)
  · replace hw := hw.1 c_1
    exact mX8_isBelow_13 X post hret M L _ _ ls hw hW (lv_sub hl [] rfl)
  · replace hw := hw.2 c_1
    refine lv_iload_n hx hb0 dX8_isBelow_4 rfl (lv_at hl 0 rfl) ?_
    refine lv_iload_n hx hb0 dX8_isBelow_5 rfl (lv_at hl 1 rfl) ?_
    refine lv_icmp_ge (tgt := 13) hx hb0 dX8_isBelow_6 (by decide) (fun c_6 => ?_) (fun c_6 => ?_)
    · replace hw := hw.1 c_6
      exact mX8_isBelow_13 X post hret M L _ _ ls hw hW (lv_sub hl [] rfl)
    · replace hw := hw.2 c_6
      refine lv_iconst (v := (1 : Int32)) hx hb0 dX8_isBelow_9 (by decide) ?_
      refine lv_goto (tgt := 14) hx hb0 dX8_isBelow_10 (by decide) ?_
      exact mX8_isBelow_14 X post hret M L (1 : Int32) _ _ ls hw hW (lv_sub hl [] rfl)
theorem kX8_isBelow (l : Launch) (D : va_G) (cy : Nat → ClassId) (ad : Nat → Nat) (hi : zInj ad) (x1 : Int32) (x2 : Int32) : zMi l yX8_isBelow (.code yX8_isBelow cX8_isBelow 2 (some .boolean) :: zG) rmX8_isBelow D cy ad [.int x1, .int x2] (wpX8_isBelow x1 x2) :=
  zMi_of (by decide +kernel) (Nat.le_of_ble_eq_true rfl) hi (fun X M L post _ hret ls hl hw hW => mX8_isBelow X post hret M L x1 x2 _ _ ls hw hW hl)
abbrev rmX7_blow : Room := { frames := 1, cells := 0, slots := 0, locals := 21 }
set_option maxRecDepth 20000 in
set_option maxHeartbeats 4000000 in
theorem mX7_blow_34 {p : Program} {l : Launch} {e : Env} {s : State} {m : MethodId} {args : Array Value} {below : List Frame} {meth : Method} {c : Code} {cells slots : Nat} {Q : State → Prop} {D : va_G} {cy : Nat → ClassId} {ad : Nat → Nat} {A : Nat → Prop} (X : zCx p rmX7_blow s m args c cells slots cX7_blow 3 RX7 D cy ad A) {b : Nat} (hb : isY b) (post : Mm → Ml → Prop) (hret : zRv p l e rmX7_blow s m args below meth c cells slots Q cX7_blow D cy ad A post) : ∀ (M : Mm) (L : Ml) (H : Heap) (locs : List Loc) (ls : Array Slot), wpX7_blow_34 b post M L → zWd D cy ad A s H locs M L → lv_has ls 3 [] → W p l e rmX7_blow s m args below meth c H locs cells slots Q (F0 m 34 ls []) := by
  have hx := X.1.1; have hb0 := X.1.2.1; have hts := X.1.2.2.2.2
  intro M L H locs ls hw hW hl
  unfold wpX7_blow_34 at hw
  exact hret _ ls _ _ M L dX7_blow_34 hw hW
set_option maxRecDepth 20000 in
set_option maxHeartbeats 4000000 in
theorem mX7_blow {p : Program} {l : Launch} {e : Env} {s : State} {m : MethodId} {args : Array Value} {below : List Frame} {meth : Method} {c : Code} {cells slots : Nat} {Q : State → Prop} {D : va_G} {cy : Nat → ClassId} {ad : Nat → Nat} {A : Nat → Prop} (X : zCx p rmX7_blow s m args c cells slots cX7_blow 3 RX7 D cy ad A) {b : Nat} (hb : isY b) (post : Mm → Ml → Prop) (hret : zRv p l e rmX7_blow s m args below meth c cells slots Q cX7_blow D cy ad A post) : ∀ (M : Mm) (L : Ml) (x1 : Int32) (x2 : Int32) (H : Heap) (locs : List Loc) (ls : Array Slot), wpX7_blow b x1 x2 M L post → zWd D cy ad A s H locs M L → lv_has ls 3 [(0, .ref (ad b)), (1, .int x1), (2, .int x2)] → W p l e rmX7_blow s m args below meth c H locs cells slots Q (F0 m 0 ls []) := by
  have hx := X.1.1; have hb0 := X.1.2.1; have hts := X.1.2.2.2.2
  intro M L x1 x2 H locs ls hw hW hl
  unfold wpX7_blow at hw
  refine lv_iload_n hx hb0 dX7_blow_0 rfl (lv_at hl 2 rfl) ?_
  refine lv_bipush (v := (16 : Int32)) hx hb0 dX7_blow_1 (by decide) ?_
  refine z_SNi X zc_X8_isBelow zt_X8_isBelow zn_X7_58 rfl ⟨rfl, rfl⟩ ⟨Nat.le_of_ble_eq_true rfl, Nat.le_of_ble_eq_true rfl⟩ (kX8_isBelow l D cy ad X.2.2.2.1 x2 (16 : Int32)) hW hw hl.1 rfl rfl (Nat.le_of_ble_eq_true rfl) dX7_blow_3 (fun r_3 M_3 L_3 H_3 locs_3 hw hW => ?_)
  refine lv_if_eq (tgt := 19) hx hb0 dX7_blow_6 (by decide) (fun c_6 => ?_) (fun c_6 => ?_)
  · replace hw := hw.1 c_6
    refine lv_aload_n hx hb0 dX7_blow_19 rfl (lv_at hl 0 rfl) ?_
    refine z_getR (k2 := (b + 2)) X hW zC5 (zRY_2 hb) (by decide) rfl zl_X7_19 dX7_blow_20 ?_
    refine lv_iload_n hx hb0 dX7_blow_23 rfl (lv_at hl 1 rfl) ?_
    refine lv_bipush (v := (-6 : Int32)) hx hb0 dX7_blow_24 (by decide) ?_
    obtain ⟨g_26, hw⟩ := hw
    refine z_iast X hW (zIY_2 hb) g_26 dX7_blow_26 (fun M_26 H_26 locs_26 e_26 hW => ?_)
    replace hw := hw M_26 e_26
    refine lv_aload_n hx hb0 dX7_blow_27 rfl (lv_at hl 0 rfl) ?_
    refine z_getR (k2 := (b + 3)) X hW zC5 (zRY_3 hb) (by decide) rfl zl_X7_22 dX7_blow_28 ?_
    refine lv_iload_n hx hb0 dX7_blow_31 rfl (lv_at hl 1 rfl) ?_
    refine lv_iconst (v := (0 : Int32)) hx hb0 dX7_blow_32 (by decide) ?_
    obtain ⟨g_33, hw⟩ := hw
    refine z_iast X hW (zIY_3 hb) g_33 dX7_blow_33 (fun M_33 H_33 locs_33 e_33 hW => ?_)
    replace hw := hw M_33 e_33
    exact mX7_blow_34 X hb post hret M_33 L_3 _ _ ls hw hW (lv_sub hl [] rfl)
  · replace hw := hw.2 c_6
    refine lv_aload_n hx hb0 dX7_blow_9 rfl (lv_at hl 0 rfl) ?_
    refine z_getR (k2 := (b + 2)) X hW zC5 (zRY_2 hb) (by decide) rfl zl_X7_19 dX7_blow_10 ?_
    refine lv_iload_n hx hb0 dX7_blow_13 rfl (lv_at hl 1 rfl) ?_
    refine lv_iload_n hx hb0 dX7_blow_14 rfl (lv_at hl 2 rfl) ?_
    obtain ⟨g_15, hw⟩ := hw
    refine z_iast X hW (zIY_2 hb) g_15 dX7_blow_15 (fun M_15 H_15 locs_15 e_15 hW => ?_)
    replace hw := hw M_15 e_15
    refine lv_goto (tgt := 34) hx hb0 dX7_blow_16 (by decide) ?_
    exact mX7_blow_34 X hb post hret M_15 L_3 _ _ ls hw hW (lv_sub hl [] rfl)
theorem kX7_blow (l : Launch) (D : va_G) (cy : Nat → ClassId) (ad : Nat → Nat) (hi : zInj ad) {b : Nat} (hb : isY b) (x1 : Int32) (x2 : Int32) : zMv l yX7_blow (.code yX7_blow cX7_blow 3 none :: zG) rmX7_blow D cy ad [.ref (ad b), .int x1, .int x2] (wpX7_blow b x1 x2) :=
  zMv_of (by decide +kernel) (Nat.le_of_ble_eq_true rfl) hi (fun X M L post _ hret ls hl hw hW => mX7_blow X hb post hret M L x1 x2 _ _ ls hw hW hl)
abbrev rmX7_blowAll : Room := { frames := 2, cells := 0, slots := 0, locals := 43 }
set_option maxRecDepth 20000 in
set_option maxHeartbeats 4000000 in
theorem mX7_blowAll_30 {p : Program} {l : Launch} {e : Env} {s : State} {m : MethodId} {args : Array Value} {below : List Frame} {meth : Method} {c : Code} {cells slots : Nat} {Q : State → Prop} {D : va_G} {cy : Nat → ClassId} {ad : Nat → Nat} {A : Nat → Prop} (X : zCx p rmX7_blowAll s m args c cells slots cX7_blowAll 3 RX7 D cy ad A) {b : Nat} (hb : isY b) (post : Mm → Ml → Prop) (hret : zRv p l e rmX7_blowAll s m args below meth c cells slots Q cX7_blowAll D cy ad A post) (K2 : Mm → Ml → Int32 → Int32 → Prop) (hK2 : ∀ (M : Mm) (L : Ml) (v1 : Int32) (v2 : Int32) (H : Heap) (locs : List Loc) (ls : Array Slot), K2 M L v1 v2 → zWd D cy ad A s H locs M L → lv_has ls 3 [(0, .ref (ad b)), (1, .int v1), (2, .int v2)] → W p l e rmX7_blowAll s m args below meth c H locs cells slots Q (F0 m 2 ls [])) : ∀ (M : Mm) (L : Ml) (v1 : Int32) (v2 : Int32) (H : Heap) (locs : List Loc) (ls : Array Slot), wpX7_blowAll_30 b post K2 M L v1 v2 → zWd D cy ad A s H locs M L → lv_has ls 3 [(0, .ref (ad b)), (1, .int v1), (2, .int v2)] → W p l e rmX7_blowAll s m args below meth c H locs cells slots Q (F0 m 30 ls []) := by
  have hx := X.1.1; have hb0 := X.1.2.1; have hts := X.1.2.2.2.2
  intro M L v1 v2 H locs ls hw hW hl
  unfold wpX7_blowAll_30 at hw
  obtain ⟨a_30, e_30⟩ : ∃ y : Int32, y = v2 + (1 : Int32) := ⟨_, rfl⟩
  replace hw := hw a_30 e_30
  refine lv_iinc (v := a_30) (lv' := [(2, .int a_30), (0, .ref (ad b)), (1, .int v1)]) hx hb0 dX7_blowAll_30 hl (k := 2) rfl (by rw [e_30]; rfl) (by decide) rfl (fun ls hl => ?_)
  refine lv_goto (tgt := 2) hx hb0 dX7_blowAll_33 (by decide) ?_
  exact hK2 M L v1 a_30 _ _ ls hw hW (lv_sub hl [1, 2, 0] rfl)
set_option maxRecDepth 20000 in
set_option maxHeartbeats 4000000 in
theorem mX7_blowAll_2 {p : Program} {l : Launch} {e : Env} {s : State} {m : MethodId} {args : Array Value} {below : List Frame} {meth : Method} {c : Code} {cells slots : Nat} {Q : State → Prop} {D : va_G} {cy : Nat → ClassId} {ad : Nat → Nat} {A : Nat → Prop} (X : zCx p rmX7_blowAll s m args c cells slots cX7_blowAll 3 RX7 D cy ad A) {b : Nat} (hb : isY b) (post : Mm → Ml → Prop) (hret : zRv p l e rmX7_blowAll s m args below meth c cells slots Q cX7_blowAll D cy ad A post) : ∀ (j9 : Nat) (M : Mm) (L : Ml) (v1 : Int32) (v2 : Int32) (H : Heap) (locs : List Loc) (ls : Array Slot), wlX7_blowAll_2 b post j9 (M, L, v1, v2) → zWd D cy ad A s H locs M L → lv_has ls 3 [(0, .ref (ad b)), (1, .int v1), (2, .int v2)] → W p l e rmX7_blowAll s m args below meth c H locs cells slots Q (F0 m 2 ls []) := by
  have hx := X.1.1; have hb0 := X.1.2.1; have hts := X.1.2.2.2.2
  intro j9
  induction j9 with
  | zero => intro M L v1 v2 H locs ls hw; exact hw.elim
  | succ j9 ih =>
    obtain ⟨K2, hKe⟩ : ∃ K : Mm → Ml → Int32 → Int32 → Prop, K = fun M L v1 v2 => wlX7_blowAll_2 b post j9 (M, L, v1, v2) := ⟨_, rfl⟩
    have hK2 : ∀ (M : Mm) (L : Ml) (v1 : Int32) (v2 : Int32) (H : Heap) (locs : List Loc) (ls : Array Slot), K2 M L v1 v2 → zWd D cy ad A s H locs M L → lv_has ls 3 [(0, .ref (ad b)), (1, .int v1), (2, .int v2)] → W p l e rmX7_blowAll s m args below meth c H locs cells slots Q (F0 m 2 ls []) := by intro M L v1 v2 H locs ls hw; rw [hKe] at hw; exact ih M L v1 v2 H locs ls hw
    intro M L v1 v2 H locs ls hw hW hl
    have hw : wpX7_blowAll_2 b post K2 M L v1 v2 := by rw [hKe]; exact hw
    clear ih
    unfold wpX7_blowAll_2 at hw
    refine lv_iload_n hx hb0 dX7_blowAll_2 rfl (lv_at hl 2 rfl) ?_
    refine lv_bipush (v := (8 : Int32)) hx hb0 dX7_blowAll_3 (by decide) ?_
    refine lv_icmp_ge (tgt := 36) hx hb0 dX7_blowAll_5 (by decide) (fun c_5 => ?_) (fun c_5 => ?_)
    · replace hw := hw.1 c_5
      exact hret _ ls _ _ M L dX7_blowAll_36 hw hW
    · replace hw := hw.2 c_5
      refine lv_aload_n hx hb0 dX7_blowAll_8 rfl (lv_at hl 0 rfl) ?_
      refine z_getR (k2 := (b + 3)) X hW zC5 (zRY_3 hb) (by decide) rfl zl_X7_22 dX7_blowAll_9 ?_
      refine lv_iload_n hx hb0 dX7_blowAll_12 rfl (lv_at hl 2 rfl) ?_
      obtain ⟨g_13, hw⟩ := hw
      refine z_iald X hW (zIY_3 hb) g_13 dX7_blowAll_13 ?_
      refine lv_if_le (tgt := 30) hx hb0 dX7_blowAll_14 (by decide) (fun c_14 => ?_) (fun c_14 => ?_)
      · replace hw := hw.1 c_14
        exact mX7_blowAll_30 X hb post hret K2 hK2 M L v1 v2 _ _ ls hw hW (lv_sub hl [0, 1, 2] rfl)
      · replace hw := hw.2 c_14
        refine lv_aload_n hx hb0 dX7_blowAll_17 rfl (lv_at hl 0 rfl) ?_
        refine lv_iload_n hx hb0 dX7_blowAll_18 rfl (lv_at hl 2 rfl) ?_
        refine lv_aload_n hx hb0 dX7_blowAll_19 rfl (lv_at hl 0 rfl) ?_
        refine z_getR (k2 := (b + 2)) X hW zC5 (zRY_2 hb) (by decide) rfl zl_X7_19 dX7_blowAll_20 ?_
        refine lv_iload_n hx hb0 dX7_blowAll_23 rfl (lv_at hl 2 rfl) ?_
        obtain ⟨g_24, hw⟩ := hw
        refine z_iald X hW (zIY_2 hb) g_24 dX7_blowAll_24 ?_
        refine lv_iload_n hx hb0 dX7_blowAll_25 rfl (lv_at hl 1 rfl) ?_
        refine lv_iadd hx hb0 dX7_blowAll_26 ?_
        refine z_Vv X (zOY hb) zC5 zc_X7_blow zs_X7_blow zl_X7_95 rfl ⟨rfl, rfl⟩ ⟨Nat.le_of_ble_eq_true rfl, Nat.le_of_ble_eq_true rfl⟩ (kX7_blow l D cy ad X.2.2.2.1 hb v2 ((M (b + 2) v2.toNatClampNeg) + v1)) hW hw hl.1 rfl rfl (Nat.le_of_ble_eq_true rfl) dX7_blowAll_27 (fun M_27 L_27 H_27 locs_27 hw hW => ?_)
        exact mX7_blowAll_30 X hb post hret K2 hK2 M_27 L_27 v1 v2 _ _ ls hw hW (lv_sub hl [0, 1, 2] rfl)
set_option maxRecDepth 20000 in
set_option maxHeartbeats 4000000 in
theorem mX7_blowAll {p : Program} {l : Launch} {e : Env} {s : State} {m : MethodId} {args : Array Value} {below : List Frame} {meth : Method} {c : Code} {cells slots : Nat} {Q : State → Prop} {D : va_G} {cy : Nat → ClassId} {ad : Nat → Nat} {A : Nat → Prop} (X : zCx p rmX7_blowAll s m args c cells slots cX7_blowAll 3 RX7 D cy ad A) {b : Nat} (hb : isY b) (post : Mm → Ml → Prop) (hret : zRv p l e rmX7_blowAll s m args below meth c cells slots Q cX7_blowAll D cy ad A post) : ∀ (M : Mm) (L : Ml) (x1 : Int32) (H : Heap) (locs : List Loc) (ls : Array Slot), wpX7_blowAll b x1 M L post → zWd D cy ad A s H locs M L → lv_has ls 3 [(0, .ref (ad b)), (1, .int x1)] → W p l e rmX7_blowAll s m args below meth c H locs cells slots Q (F0 m 0 ls []) := by
  have hx := X.1.1; have hb0 := X.1.2.1; have hts := X.1.2.2.2.2
  intro M L x1 H locs ls hw hW hl
  unfold wpX7_blowAll at hw
  refine lv_iconst (v := (0 : Int32)) hx hb0 dX7_blowAll_0 (by decide) ?_
  refine lv_istore_n (lv' := [(2, .int (0 : Int32)), (0, .ref (ad b)), (1, .int x1)]) hx hb0 dX7_blowAll_1 rfl hl (by decide) rfl (fun ls hl => ?_)
  obtain ⟨n_2, hw⟩ := hw
  exact mX7_blowAll_2 X hb post hret n_2 M L x1 (0 : Int32) _ _ ls hw hW (lv_sub hl [1, 2, 0] rfl)
theorem kX7_blowAll (l : Launch) (D : va_G) (cy : Nat → ClassId) (ad : Nat → Nat) (hi : zInj ad) {b : Nat} (hb : isY b) (x1 : Int32) : zMv l yX7_blowAll (.code yX7_blowAll cX7_blowAll 3 none :: zG) rmX7_blowAll D cy ad [.ref (ad b), .int x1] (wpX7_blowAll b x1) :=
  zMv_of (by decide +kernel) (Nat.le_of_ble_eq_true rfl) hi (fun X M L post _ hret ls hl hw hW => mX7_blowAll X hb post hret M L x1 _ _ ls hw hW hl)
abbrev rmX7_growAll : Room := { frames := 2, cells := 0, slots := 0, locals := 44 }
set_option maxRecDepth 20000 in
set_option maxHeartbeats 4000000 in
theorem mX7_growAll_33 {p : Program} {l : Launch} {e : Env} {s : State} {m : MethodId} {args : Array Value} {below : List Frame} {meth : Method} {c : Code} {cells slots : Nat} {Q : State → Prop} {D : va_G} {cy : Nat → ClassId} {ad : Nat → Nat} {A : Nat → Prop} (X : zCx p rmX7_growAll s m args c cells slots cX7_growAll 3 RX7 D cy ad A) {b : Nat} (hb : isY b) (post : Mm → Ml → Prop) (hret : zRv p l e rmX7_growAll s m args below meth c cells slots Q cX7_growAll D cy ad A post) (K2 : Mm → Ml → Int32 → Int32 → Prop) (hK2 : ∀ (M : Mm) (L : Ml) (v1 : Int32) (v2 : Int32) (H : Heap) (locs : List Loc) (ls : Array Slot), K2 M L v1 v2 → zWd D cy ad A s H locs M L → lv_has ls 3 [(0, .ref (ad b)), (1, .int v1), (2, .int v2)] → W p l e rmX7_growAll s m args below meth c H locs cells slots Q (F0 m 2 ls [])) : ∀ (M : Mm) (L : Ml) (v1 : Int32) (v2 : Int32) (H : Heap) (locs : List Loc) (ls : Array Slot), wpX7_growAll_33 b post K2 M L v1 v2 → zWd D cy ad A s H locs M L → lv_has ls 3 [(0, .ref (ad b)), (1, .int v1), (2, .int v2)] → W p l e rmX7_growAll s m args below meth c H locs cells slots Q (F0 m 33 ls []) := by
  have hx := X.1.1; have hb0 := X.1.2.1; have hts := X.1.2.2.2.2
  intro M L v1 v2 H locs ls hw hW hl
  unfold wpX7_growAll_33 at hw
  obtain ⟨a_33, e_33⟩ : ∃ y : Int32, y = v2 + (1 : Int32) := ⟨_, rfl⟩
  replace hw := hw a_33 e_33
  refine lv_iinc (v := a_33) (lv' := [(2, .int a_33), (0, .ref (ad b)), (1, .int v1)]) hx hb0 dX7_growAll_33 hl (k := 2) rfl (by rw [e_33]; rfl) (by decide) rfl (fun ls hl => ?_)
  refine lv_goto (tgt := 2) hx hb0 dX7_growAll_36 (by decide) ?_
  exact hK2 M L v1 a_33 _ _ ls hw hW (lv_sub hl [1, 2, 0] rfl)
set_option maxRecDepth 20000 in
set_option maxHeartbeats 4000000 in
theorem mX7_growAll_2 {p : Program} {l : Launch} {e : Env} {s : State} {m : MethodId} {args : Array Value} {below : List Frame} {meth : Method} {c : Code} {cells slots : Nat} {Q : State → Prop} {D : va_G} {cy : Nat → ClassId} {ad : Nat → Nat} {A : Nat → Prop} (X : zCx p rmX7_growAll s m args c cells slots cX7_growAll 3 RX7 D cy ad A) {b : Nat} (hb : isY b) (post : Mm → Ml → Prop) (hret : zRv p l e rmX7_growAll s m args below meth c cells slots Q cX7_growAll D cy ad A post) : ∀ (j9 : Nat) (M : Mm) (L : Ml) (v1 : Int32) (v2 : Int32) (H : Heap) (locs : List Loc) (ls : Array Slot), wlX7_growAll_2 b post j9 (M, L, v1, v2) → zWd D cy ad A s H locs M L → lv_has ls 3 [(0, .ref (ad b)), (1, .int v1), (2, .int v2)] → W p l e rmX7_growAll s m args below meth c H locs cells slots Q (F0 m 2 ls []) := by
  have hx := X.1.1; have hb0 := X.1.2.1; have hts := X.1.2.2.2.2
  intro j9
  induction j9 with
  | zero => intro M L v1 v2 H locs ls hw; exact hw.elim
  | succ j9 ih =>
    obtain ⟨K2, hKe⟩ : ∃ K : Mm → Ml → Int32 → Int32 → Prop, K = fun M L v1 v2 => wlX7_growAll_2 b post j9 (M, L, v1, v2) := ⟨_, rfl⟩
    have hK2 : ∀ (M : Mm) (L : Ml) (v1 : Int32) (v2 : Int32) (H : Heap) (locs : List Loc) (ls : Array Slot), K2 M L v1 v2 → zWd D cy ad A s H locs M L → lv_has ls 3 [(0, .ref (ad b)), (1, .int v1), (2, .int v2)] → W p l e rmX7_growAll s m args below meth c H locs cells slots Q (F0 m 2 ls []) := by intro M L v1 v2 H locs ls hw; rw [hKe] at hw; exact ih M L v1 v2 H locs ls hw
    intro M L v1 v2 H locs ls hw hW hl
    have hw : wpX7_growAll_2 b post K2 M L v1 v2 := by rw [hKe]; exact hw
    clear ih
    unfold wpX7_growAll_2 at hw
    refine lv_iload_n hx hb0 dX7_growAll_2 rfl (lv_at hl 2 rfl) ?_
    refine lv_bipush (v := (8 : Int32)) hx hb0 dX7_growAll_3 (by decide) ?_
    refine lv_icmp_ge (tgt := 39) hx hb0 dX7_growAll_5 (by decide) (fun c_5 => ?_) (fun c_5 => ?_)
    · replace hw := hw.1 c_5
      exact hret _ ls _ _ M L dX7_growAll_39 hw hW
    · replace hw := hw.2 c_5
      refine lv_aload_n hx hb0 dX7_growAll_8 rfl (lv_at hl 0 rfl) ?_
      refine z_getR (k2 := (b + 3)) X hW zC5 (zRY_3 hb) (by decide) rfl zl_X7_22 dX7_growAll_9 ?_
      refine lv_iload_n hx hb0 dX7_growAll_12 rfl (lv_at hl 2 rfl) ?_
      obtain ⟨g_13, hw⟩ := hw
      refine z_iald X hW (zIY_3 hb) g_13 dX7_growAll_13 ?_
      refine lv_if_le (tgt := 33) hx hb0 dX7_growAll_14 (by decide) (fun c_14 => ?_) (fun c_14 => ?_)
      · replace hw := hw.1 c_14
        exact mX7_growAll_33 X hb post hret K2 hK2 M L v1 v2 _ _ ls hw hW (lv_sub hl [0, 1, 2] rfl)
      · replace hw := hw.2 c_14
        refine lv_aload_n hx hb0 dX7_growAll_17 rfl (lv_at hl 0 rfl) ?_
        refine z_getR (k2 := (b + 1)) X hW zC5 (zRY_1 hb) (by decide) rfl zl_X7_15 dX7_growAll_18 ?_
        refine lv_iload_n hx hb0 dX7_growAll_21 rfl (lv_at hl 2 rfl) ?_
        refine lv_aload_n hx hb0 dX7_growAll_22 rfl (lv_at hl 0 rfl) ?_
        refine z_getR (k2 := (b + 1)) X hW zC5 (zRY_1 hb) (by decide) rfl zl_X7_15 dX7_growAll_23 ?_
        refine lv_iload_n hx hb0 dX7_growAll_26 rfl (lv_at hl 2 rfl) ?_
        obtain ⟨g_27, hw⟩ := hw
        refine z_iald X hW (zIY_1 hb) g_27 dX7_growAll_27 ?_
        refine lv_iload_n hx hb0 dX7_growAll_28 rfl (lv_at hl 1 rfl) ?_
        refine z_SNi X zc_X3_grown zt_X3_grown zn_X7_90 rfl ⟨rfl, rfl⟩ ⟨Nat.le_of_ble_eq_true rfl, Nat.le_of_ble_eq_true rfl⟩ (kX3_grown l D cy ad X.2.2.2.1 (M (b + 1) v2.toNatClampNeg) v1) hW hw hl.1 rfl rfl (Nat.le_of_ble_eq_true rfl) dX7_growAll_29 (fun r_29 M_29 L_29 H_29 locs_29 hw hW => ?_)
        obtain ⟨g_32, hw⟩ := hw
        refine z_iast X hW (zIY_1 hb) g_32 dX7_growAll_32 (fun M_32 H_32 locs_32 e_32 hW => ?_)
        replace hw := hw M_32 e_32
        exact mX7_growAll_33 X hb post hret K2 hK2 M_32 L_29 v1 v2 _ _ ls hw hW (lv_sub hl [0, 1, 2] rfl)
set_option maxRecDepth 20000 in
set_option maxHeartbeats 4000000 in
theorem mX7_growAll {p : Program} {l : Launch} {e : Env} {s : State} {m : MethodId} {args : Array Value} {below : List Frame} {meth : Method} {c : Code} {cells slots : Nat} {Q : State → Prop} {D : va_G} {cy : Nat → ClassId} {ad : Nat → Nat} {A : Nat → Prop} (X : zCx p rmX7_growAll s m args c cells slots cX7_growAll 3 RX7 D cy ad A) {b : Nat} (hb : isY b) (post : Mm → Ml → Prop) (hret : zRv p l e rmX7_growAll s m args below meth c cells slots Q cX7_growAll D cy ad A post) : ∀ (M : Mm) (L : Ml) (x1 : Int32) (H : Heap) (locs : List Loc) (ls : Array Slot), wpX7_growAll b x1 M L post → zWd D cy ad A s H locs M L → lv_has ls 3 [(0, .ref (ad b)), (1, .int x1)] → W p l e rmX7_growAll s m args below meth c H locs cells slots Q (F0 m 0 ls []) := by
  have hx := X.1.1; have hb0 := X.1.2.1; have hts := X.1.2.2.2.2
  intro M L x1 H locs ls hw hW hl
  unfold wpX7_growAll at hw
  refine lv_iconst (v := (0 : Int32)) hx hb0 dX7_growAll_0 (by decide) ?_
  refine lv_istore_n (lv' := [(2, .int (0 : Int32)), (0, .ref (ad b)), (1, .int x1)]) hx hb0 dX7_growAll_1 rfl hl (by decide) rfl (fun ls hl => ?_)
  obtain ⟨n_2, hw⟩ := hw
  exact mX7_growAll_2 X hb post hret n_2 M L x1 (0 : Int32) _ _ ls hw hW (lv_sub hl [1, 2, 0] rfl)
theorem kX7_growAll (l : Launch) (D : va_G) (cy : Nat → ClassId) (ad : Nat → Nat) (hi : zInj ad) {b : Nat} (hb : isY b) (x1 : Int32) : zMv l yX7_growAll (.code yX7_growAll cX7_growAll 3 none :: zG) rmX7_growAll D cy ad [.ref (ad b), .int x1] (wpX7_growAll b x1) :=
  zMv_of (by decide +kernel) (Nat.le_of_ble_eq_true rfl) hi (fun X M L post _ hret ls hl hw hW => mX7_growAll X hb post hret M L x1 _ _ ls hw hW hl)
abbrev rmX7_catcherAt : Room := { frames := 1, cells := 0, slots := 0, locals := 21 }
set_option maxRecDepth 20000 in
set_option maxHeartbeats 4000000 in
theorem mX7_catcherAt_31 {p : Program} {l : Launch} {e : Env} {s : State} {m : MethodId} {args : Array Value} {below : List Frame} {meth : Method} {c : Code} {cells slots : Nat} {Q : State → Prop} {D : va_G} {cy : Nat → ClassId} {ad : Nat → Nat} {A : Nat → Prop} (X : zCx p rmX7_catcherAt s m args c cells slots cX7_catcherAt 3 RX7 D cy ad A) {b : Nat} (hb : isY b) (post : Int32 → Mm → Ml → Prop) (hret : zRi p l e rmX7_catcherAt s m args below meth c cells slots Q cX7_catcherAt D cy ad A .int post) (K2 : Mm → Ml → Int32 → Int32 → Prop) (hK2 : ∀ (M : Mm) (L : Ml) (v1 : Int32) (v2 : Int32) (H : Heap) (locs : List Loc) (ls : Array Slot), K2 M L v1 v2 → zWd D cy ad A s H locs M L → lv_has ls 3 [(0, .ref (ad b)), (1, .int v1), (2, .int v2)] → W p l e rmX7_catcherAt s m args below meth c H locs cells slots Q (F0 m 2 ls [])) : ∀ (M : Mm) (L : Ml) (v1 : Int32) (v2 : Int32) (H : Heap) (locs : List Loc) (ls : Array Slot), wpX7_catcherAt_31 b post K2 M L v1 v2 → zWd D cy ad A s H locs M L → lv_has ls 3 [(0, .ref (ad b)), (1, .int v1), (2, .int v2)] → W p l e rmX7_catcherAt s m args below meth c H locs cells slots Q (F0 m 31 ls []) := by
  have hx := X.1.1; have hb0 := X.1.2.1; have hts := X.1.2.2.2.2
  intro M L v1 v2 H locs ls hw hW hl
  unfold wpX7_catcherAt_31 at hw
  obtain ⟨a_31, e_31⟩ : ∃ y : Int32, y = v2 + (1 : Int32) := ⟨_, rfl⟩
  replace hw := hw a_31 e_31
  refine lv_iinc (v := a_31) (lv' := [(2, .int a_31), (0, .ref (ad b)), (1, .int v1)]) hx hb0 dX7_catcherAt_31 hl (k := 2) rfl (by rw [e_31]; rfl) (by decide) rfl (fun ls hl => ?_)
  refine lv_goto (tgt := 2) hx hb0 dX7_catcherAt_34 (by decide) ?_
  exact hK2 M L v1 a_31 _ _ ls hw hW (lv_sub hl [1, 2, 0] rfl)
set_option maxRecDepth 20000 in
set_option maxHeartbeats 4000000 in
theorem mX7_catcherAt_2 {p : Program} {l : Launch} {e : Env} {s : State} {m : MethodId} {args : Array Value} {below : List Frame} {meth : Method} {c : Code} {cells slots : Nat} {Q : State → Prop} {D : va_G} {cy : Nat → ClassId} {ad : Nat → Nat} {A : Nat → Prop} (X : zCx p rmX7_catcherAt s m args c cells slots cX7_catcherAt 3 RX7 D cy ad A) {b : Nat} (hb : isY b) (post : Int32 → Mm → Ml → Prop) (hret : zRi p l e rmX7_catcherAt s m args below meth c cells slots Q cX7_catcherAt D cy ad A .int post) : ∀ (j9 : Nat) (M : Mm) (L : Ml) (v1 : Int32) (v2 : Int32) (H : Heap) (locs : List Loc) (ls : Array Slot), wlX7_catcherAt_2 b post j9 (M, L, v1, v2) → zWd D cy ad A s H locs M L → lv_has ls 3 [(0, .ref (ad b)), (1, .int v1), (2, .int v2)] → W p l e rmX7_catcherAt s m args below meth c H locs cells slots Q (F0 m 2 ls []) := by
  have hx := X.1.1; have hb0 := X.1.2.1; have hts := X.1.2.2.2.2
  intro j9
  induction j9 with
  | zero => intro M L v1 v2 H locs ls hw; exact hw.elim
  | succ j9 ih =>
    obtain ⟨K2, hKe⟩ : ∃ K : Mm → Ml → Int32 → Int32 → Prop, K = fun M L v1 v2 => wlX7_catcherAt_2 b post j9 (M, L, v1, v2) := ⟨_, rfl⟩
    have hK2 : ∀ (M : Mm) (L : Ml) (v1 : Int32) (v2 : Int32) (H : Heap) (locs : List Loc) (ls : Array Slot), K2 M L v1 v2 → zWd D cy ad A s H locs M L → lv_has ls 3 [(0, .ref (ad b)), (1, .int v1), (2, .int v2)] → W p l e rmX7_catcherAt s m args below meth c H locs cells slots Q (F0 m 2 ls []) := by intro M L v1 v2 H locs ls hw; rw [hKe] at hw; exact ih M L v1 v2 H locs ls hw
    intro M L v1 v2 H locs ls hw hW hl
    have hw : wpX7_catcherAt_2 b post K2 M L v1 v2 := by rw [hKe]; exact hw
    clear ih
    unfold wpX7_catcherAt_2 at hw
    refine lv_iload_n hx hb0 dX7_catcherAt_2 rfl (lv_at hl 2 rfl) ?_
    refine lv_bipush (v := (6 : Int32)) hx hb0 dX7_catcherAt_3 (by decide) ?_
    refine lv_icmp_ge (tgt := 37) hx hb0 dX7_catcherAt_5 (by decide) (fun c_5 => ?_) (fun c_5 => ?_)
    · replace hw := hw.1 c_5
      refine lv_bipush (v := (-6 : Int32)) hx hb0 dX7_catcherAt_37 (by decide) ?_
      exact hret _ ls _ _ (-6 : Int32) M L dX7_catcherAt_39 rfl hw hW
    · replace hw := hw.2 c_5
      refine lv_aload_n hx hb0 dX7_catcherAt_8 rfl (lv_at hl 0 rfl) ?_
      refine z_getR (k2 := (b + 6)) X hW zC5 (zRY_6 hb) (by decide) rfl zl_X7_31 dX7_catcherAt_9 ?_
      refine lv_iload_n hx hb0 dX7_catcherAt_12 rfl (lv_at hl 2 rfl) ?_
      obtain ⟨g_13, hw⟩ := hw
      refine z_iald X hW (zIY_6 hb) g_13 dX7_catcherAt_13 ?_
      refine lv_iload_n hx hb0 dX7_catcherAt_14 rfl (lv_at hl 1 rfl) ?_
      refine lv_icmp_ne (tgt := 31) hx hb0 dX7_catcherAt_15 (by decide) (fun c_15 => ?_) (fun c_15 => ?_)
      · replace hw := hw.1 c_15
        exact mX7_catcherAt_31 X hb post hret K2 hK2 M L v1 v2 _ _ ls hw hW (lv_sub hl [0, 1, 2] rfl)
      · replace hw := hw.2 c_15
        refine lv_aload_n hx hb0 dX7_catcherAt_18 rfl (lv_at hl 0 rfl) ?_
        refine z_getI X hW zC5 (zFY_7 hb) (by decide) rfl zl_X7_34 dX7_catcherAt_19 ?_
        refine lv_iload_n hx hb0 dX7_catcherAt_22 rfl (lv_at hl 2 rfl) ?_
        refine z_SNi X zc_X8_bit zt_X8_bit zn_X7_62 rfl ⟨rfl, rfl⟩ ⟨Nat.le_of_ble_eq_true rfl, Nat.le_of_ble_eq_true rfl⟩ (kX8_bit l D cy ad X.2.2.2.1 (M b 7) v2) hW hw hl.1 rfl rfl (Nat.le_of_ble_eq_true rfl) dX7_catcherAt_23 (fun r_23 M_23 L_23 H_23 locs_23 hw hW => ?_)
        refine lv_if_ne (tgt := 31) hx hb0 dX7_catcherAt_26 (by decide) (fun c_26 => ?_) (fun c_26 => ?_)
        · replace hw := hw.1 c_26
          exact mX7_catcherAt_31 X hb post hret K2 hK2 M_23 L_23 v1 v2 _ _ ls hw hW (lv_sub hl [0, 1, 2] rfl)
        · replace hw := hw.2 c_26
          refine lv_iload_n hx hb0 dX7_catcherAt_29 rfl (lv_at hl 2 rfl) ?_
          exact hret _ ls _ _ v2 M_23 L_23 dX7_catcherAt_30 rfl hw hW
set_option maxRecDepth 20000 in
set_option maxHeartbeats 4000000 in
theorem mX7_catcherAt {p : Program} {l : Launch} {e : Env} {s : State} {m : MethodId} {args : Array Value} {below : List Frame} {meth : Method} {c : Code} {cells slots : Nat} {Q : State → Prop} {D : va_G} {cy : Nat → ClassId} {ad : Nat → Nat} {A : Nat → Prop} (X : zCx p rmX7_catcherAt s m args c cells slots cX7_catcherAt 3 RX7 D cy ad A) {b : Nat} (hb : isY b) (post : Int32 → Mm → Ml → Prop) (hret : zRi p l e rmX7_catcherAt s m args below meth c cells slots Q cX7_catcherAt D cy ad A .int post) : ∀ (M : Mm) (L : Ml) (x1 : Int32) (H : Heap) (locs : List Loc) (ls : Array Slot), wpX7_catcherAt b x1 M L post → zWd D cy ad A s H locs M L → lv_has ls 3 [(0, .ref (ad b)), (1, .int x1)] → W p l e rmX7_catcherAt s m args below meth c H locs cells slots Q (F0 m 0 ls []) := by
  have hx := X.1.1; have hb0 := X.1.2.1; have hts := X.1.2.2.2.2
  intro M L x1 H locs ls hw hW hl
  unfold wpX7_catcherAt at hw
  refine lv_iconst (v := (0 : Int32)) hx hb0 dX7_catcherAt_0 (by decide) ?_
  refine lv_istore_n (lv' := [(2, .int (0 : Int32)), (0, .ref (ad b)), (1, .int x1)]) hx hb0 dX7_catcherAt_1 rfl hl (by decide) rfl (fun ls hl => ?_)
  obtain ⟨n_2, hw⟩ := hw
  exact mX7_catcherAt_2 X hb post hret n_2 M L x1 (0 : Int32) _ _ ls hw hW (lv_sub hl [1, 2, 0] rfl)
theorem kX7_catcherAt (l : Launch) (D : va_G) (cy : Nat → ClassId) (ad : Nat → Nat) (hi : zInj ad) {b : Nat} (hb : isY b) (x1 : Int32) : zMi l yX7_catcherAt (.code yX7_catcherAt cX7_catcherAt 3 (some .int) :: zG) rmX7_catcherAt D cy ad [.ref (ad b), .int x1] (wpX7_catcherAt b x1) :=
  zMi_of (by decide +kernel) (Nat.le_of_ble_eq_true rfl) hi (fun X M L post _ hret ls hl hw hW => mX7_catcherAt X hb post hret M L x1 _ _ ls hw hW hl)
abbrev rmX7_lowerAll : Room := { frames := 2, cells := 0, slots := 0, locals := 43 }
set_option maxRecDepth 20000 in
set_option maxHeartbeats 4000000 in
theorem mX7_lowerAll_57 {p : Program} {l : Launch} {e : Env} {s : State} {m : MethodId} {args : Array Value} {below : List Frame} {meth : Method} {c : Code} {cells slots : Nat} {Q : State → Prop} {D : va_G} {cy : Nat → ClassId} {ad : Nat → Nat} {A : Nat → Prop} (X : zCx p rmX7_lowerAll s m args c cells slots cX7_lowerAll 2 RX7 D cy ad A) {b : Nat} (hb : isY b) (post : Mm → Ml → Prop) (hret : zRv p l e rmX7_lowerAll s m args below meth c cells slots Q cX7_lowerAll D cy ad A post) (K2 : Mm → Ml → Int32 → Prop) (hK2 : ∀ (M : Mm) (L : Ml) (v1 : Int32) (H : Heap) (locs : List Loc) (ls : Array Slot), K2 M L v1 → zWd D cy ad A s H locs M L → lv_has ls 2 [(0, .ref (ad b)), (1, .int v1)] → W p l e rmX7_lowerAll s m args below meth c H locs cells slots Q (F0 m 2 ls [])) : ∀ (M : Mm) (L : Ml) (v1 : Int32) (H : Heap) (locs : List Loc) (ls : Array Slot), wpX7_lowerAll_57 b post K2 M L v1 → zWd D cy ad A s H locs M L → lv_has ls 2 [(0, .ref (ad b)), (1, .int v1)] → W p l e rmX7_lowerAll s m args below meth c H locs cells slots Q (F0 m 57 ls []) := by
  have hx := X.1.1; have hb0 := X.1.2.1; have hts := X.1.2.2.2.2
  intro M L v1 H locs ls hw hW hl
  unfold wpX7_lowerAll_57 at hw
  obtain ⟨a_57, e_57⟩ : ∃ y : Int32, y = v1 + (1 : Int32) := ⟨_, rfl⟩
  replace hw := hw a_57 e_57
  refine lv_iinc (v := a_57) (lv' := [(1, .int a_57), (0, .ref (ad b))]) hx hb0 dX7_lowerAll_57 hl (k := 1) rfl (by rw [e_57]; rfl) (by decide) rfl (fun ls hl => ?_)
  refine lv_goto (tgt := 2) hx hb0 dX7_lowerAll_60 (by decide) ?_
  exact hK2 M L a_57 _ _ ls hw hW (lv_sub hl [1, 0] rfl)
set_option maxRecDepth 20000 in
set_option maxHeartbeats 4000000 in
theorem mX7_lowerAll_56 {p : Program} {l : Launch} {e : Env} {s : State} {m : MethodId} {args : Array Value} {below : List Frame} {meth : Method} {c : Code} {cells slots : Nat} {Q : State → Prop} {D : va_G} {cy : Nat → ClassId} {ad : Nat → Nat} {A : Nat → Prop} (X : zCx p rmX7_lowerAll s m args c cells slots cX7_lowerAll 2 RX7 D cy ad A) {b : Nat} (hb : isY b) (post : Mm → Ml → Prop) (hret : zRv p l e rmX7_lowerAll s m args below meth c cells slots Q cX7_lowerAll D cy ad A post) (K2 : Mm → Ml → Int32 → Prop) (hK2 : ∀ (M : Mm) (L : Ml) (v1 : Int32) (H : Heap) (locs : List Loc) (ls : Array Slot), K2 M L v1 → zWd D cy ad A s H locs M L → lv_has ls 2 [(0, .ref (ad b)), (1, .int v1)] → W p l e rmX7_lowerAll s m args below meth c H locs cells slots Q (F0 m 2 ls [])) : ∀ (M : Mm) (L : Ml) (v1 : Int32) (s0 : Int32) (s1 : Int32) (H : Heap) (locs : List Loc) (ls : Array Slot), wpX7_lowerAll_56 b post K2 M L v1 s0 s1 → zWd D cy ad A s H locs M L → lv_has ls 2 [(0, .ref (ad b)), (1, .int v1)] → W p l e rmX7_lowerAll s m args below meth c H locs cells slots Q (F0 m 56 ls [.int s0, .int s1, .ref (ad (b + 5))]) := by
  have hx := X.1.1; have hb0 := X.1.2.1; have hts := X.1.2.2.2.2
  intro M L v1 s0 s1 H locs ls hw hW hl
  unfold wpX7_lowerAll_56 at hw
  obtain ⟨g_56, hw⟩ := hw
  refine z_iast X hW (zIY_5 hb) g_56 dX7_lowerAll_56 (fun M_56 H_56 locs_56 e_56 hW => ?_)
  replace hw := hw M_56 e_56
  exact mX7_lowerAll_57 X hb post hret K2 hK2 M_56 L v1 _ _ ls hw hW (lv_sub hl [0, 1] rfl)
set_option maxRecDepth 20000 in
set_option maxHeartbeats 4000000 in
theorem mX7_lowerAll_2 {p : Program} {l : Launch} {e : Env} {s : State} {m : MethodId} {args : Array Value} {below : List Frame} {meth : Method} {c : Code} {cells slots : Nat} {Q : State → Prop} {D : va_G} {cy : Nat → ClassId} {ad : Nat → Nat} {A : Nat → Prop} (X : zCx p rmX7_lowerAll s m args c cells slots cX7_lowerAll 2 RX7 D cy ad A) {b : Nat} (hb : isY b) (post : Mm → Ml → Prop) (hret : zRv p l e rmX7_lowerAll s m args below meth c cells slots Q cX7_lowerAll D cy ad A post) : ∀ (j9 : Nat) (M : Mm) (L : Ml) (v1 : Int32) (H : Heap) (locs : List Loc) (ls : Array Slot), wlX7_lowerAll_2 b post j9 (M, L, v1) → zWd D cy ad A s H locs M L → lv_has ls 2 [(0, .ref (ad b)), (1, .int v1)] → W p l e rmX7_lowerAll s m args below meth c H locs cells slots Q (F0 m 2 ls []) := by
  have hx := X.1.1; have hb0 := X.1.2.1; have hts := X.1.2.2.2.2
  intro j9
  induction j9 with
  | zero => intro M L v1 H locs ls hw; exact hw.elim
  | succ j9 ih =>
    obtain ⟨K2, hKe⟩ : ∃ K : Mm → Ml → Int32 → Prop, K = fun M L v1 => wlX7_lowerAll_2 b post j9 (M, L, v1) := ⟨_, rfl⟩
    have hK2 : ∀ (M : Mm) (L : Ml) (v1 : Int32) (H : Heap) (locs : List Loc) (ls : Array Slot), K2 M L v1 → zWd D cy ad A s H locs M L → lv_has ls 2 [(0, .ref (ad b)), (1, .int v1)] → W p l e rmX7_lowerAll s m args below meth c H locs cells slots Q (F0 m 2 ls []) := by intro M L v1 H locs ls hw; rw [hKe] at hw; exact ih M L v1 H locs ls hw
    intro M L v1 H locs ls hw hW hl
    have hw : wpX7_lowerAll_2 b post K2 M L v1 := by rw [hKe]; exact hw
    clear ih
    unfold wpX7_lowerAll_2 at hw
    refine lv_iload_n hx hb0 dX7_lowerAll_2 rfl (lv_at hl 1 rfl) ?_
    refine lv_bipush (v := (8 : Int32)) hx hb0 dX7_lowerAll_3 (by decide) ?_
    refine lv_icmp_ge (tgt := 63) hx hb0 dX7_lowerAll_5 (by decide) (fun c_5 => ?_) (fun c_5 => ?_)
    · replace hw := hw.1 c_5
      exact hret _ ls _ _ M L dX7_lowerAll_63 hw hW
    · replace hw := hw.2 c_5
      refine lv_aload_n hx hb0 dX7_lowerAll_8 rfl (lv_at hl 0 rfl) ?_
      refine z_getR (k2 := (b + 3)) X hW zC5 (zRY_3 hb) (by decide) rfl zl_X7_22 dX7_lowerAll_9 ?_
      refine lv_iload_n hx hb0 dX7_lowerAll_12 rfl (lv_at hl 1 rfl) ?_
      obtain ⟨g_13, hw⟩ := hw
      refine z_iald X hW (zIY_3 hb) g_13 dX7_lowerAll_13 ?_
      refine lv_if_le (tgt := 57) hx hb0 dX7_lowerAll_14 (by decide) (fun c_14 => ?_) (fun c_14 => ?_)
      · replace hw := hw.1 c_14
        exact mX7_lowerAll_57 X hb post hret K2 hK2 M L v1 _ _ ls hw hW (lv_sub hl [0, 1] rfl)
      · replace hw := hw.2 c_14
        refine lv_aload_n hx hb0 dX7_lowerAll_17 rfl (lv_at hl 0 rfl) ?_
        refine z_getR (k2 := (b + 3)) X hW zC5 (zRY_3 hb) (by decide) rfl zl_X7_22 dX7_lowerAll_18 ?_
        refine lv_iload_n hx hb0 dX7_lowerAll_21 rfl (lv_at hl 1 rfl) ?_
        refine lv_dup2_11 hx hb0 dX7_lowerAll_22 rfl rfl ?_
        obtain ⟨g_23, hw⟩ := hw
        refine z_iald X hW (zIY_3 hb) g_23 dX7_lowerAll_23 ?_
        refine lv_iconst (v := (1 : Int32)) hx hb0 dX7_lowerAll_24 (by decide) ?_
        refine lv_isub hx hb0 dX7_lowerAll_25 ?_
        obtain ⟨g_26, hw⟩ := hw
        refine z_iast X hW (zIY_3 hb) g_26 dX7_lowerAll_26 (fun M_26 H_26 locs_26 e_26 hW => ?_)
        replace hw := hw M_26 e_26
        refine lv_aload_n hx hb0 dX7_lowerAll_27 rfl (lv_at hl 0 rfl) ?_
        refine z_getR (k2 := (b + 5)) X hW zC5 (zRY_5 hb) (by decide) rfl zl_X7_28 dX7_lowerAll_28 ?_
        refine lv_iload_n hx hb0 dX7_lowerAll_31 rfl (lv_at hl 1 rfl) ?_
        refine lv_aload_n hx hb0 dX7_lowerAll_32 rfl (lv_at hl 0 rfl) ?_
        refine z_getR (k2 := (b + 3)) X hW zC5 (zRY_3 hb) (by decide) rfl zl_X7_22 dX7_lowerAll_33 ?_
        refine lv_iload_n hx hb0 dX7_lowerAll_36 rfl (lv_at hl 1 rfl) ?_
        obtain ⟨g_37, hw⟩ := hw
        refine z_iald X hW (zIY_3 hb) g_37 dX7_lowerAll_37 ?_
        refine lv_if_ne (tgt := 54) hx hb0 dX7_lowerAll_38 (by decide) (fun c_38 => ?_) (fun c_38 => ?_)
        · replace hw := hw.1 c_38
          refine lv_bipush (v := (-6 : Int32)) hx hb0 dX7_lowerAll_54 (by decide) ?_
          exact mX7_lowerAll_56 X hb post hret K2 hK2 M_26 L v1 (-6 : Int32) v1 _ _ ls hw hW (lv_sub hl [0, 1] rfl)
        · replace hw := hw.2 c_38
          refine lv_aload_n hx hb0 dX7_lowerAll_41 rfl (lv_at hl 0 rfl) ?_
          refine lv_aload_n hx hb0 dX7_lowerAll_42 rfl (lv_at hl 0 rfl) ?_
          refine z_getR (k2 := (b + 2)) X hW zC5 (zRY_2 hb) (by decide) rfl zl_X7_19 dX7_lowerAll_43 ?_
          refine lv_iload_n hx hb0 dX7_lowerAll_46 rfl (lv_at hl 1 rfl) ?_
          obtain ⟨g_47, hw⟩ := hw
          refine z_iald X hW (zIY_2 hb) g_47 dX7_lowerAll_47 ?_
          refine z_Vi X (zOY hb) zC5 zc_X7_catcherAt zs_X7_catcherAt zl_X7_99 rfl ⟨rfl, rfl⟩ ⟨Nat.le_of_ble_eq_true rfl, Nat.le_of_ble_eq_true rfl⟩ (kX7_catcherAt l D cy ad X.2.2.2.1 hb (M_26 (b + 2) v1.toNatClampNeg)) hW hw hl.1 rfl rfl (Nat.le_of_ble_eq_true rfl) dX7_lowerAll_48 (fun r_48 M_48 L_48 H_48 locs_48 hw hW => ?_)
          refine lv_goto (tgt := 56) hx hb0 dX7_lowerAll_51 (by decide) ?_
          exact mX7_lowerAll_56 X hb post hret K2 hK2 M_48 L_48 v1 r_48 v1 _ _ ls hw hW (lv_sub hl [0, 1] rfl)
set_option maxRecDepth 20000 in
set_option maxHeartbeats 4000000 in
theorem mX7_lowerAll {p : Program} {l : Launch} {e : Env} {s : State} {m : MethodId} {args : Array Value} {below : List Frame} {meth : Method} {c : Code} {cells slots : Nat} {Q : State → Prop} {D : va_G} {cy : Nat → ClassId} {ad : Nat → Nat} {A : Nat → Prop} (X : zCx p rmX7_lowerAll s m args c cells slots cX7_lowerAll 2 RX7 D cy ad A) {b : Nat} (hb : isY b) (post : Mm → Ml → Prop) (hret : zRv p l e rmX7_lowerAll s m args below meth c cells slots Q cX7_lowerAll D cy ad A post) : ∀ (M : Mm) (L : Ml) (H : Heap) (locs : List Loc) (ls : Array Slot), wpX7_lowerAll b M L post → zWd D cy ad A s H locs M L → lv_has ls 2 [(0, .ref (ad b))] → W p l e rmX7_lowerAll s m args below meth c H locs cells slots Q (F0 m 0 ls []) := by
  have hx := X.1.1; have hb0 := X.1.2.1; have hts := X.1.2.2.2.2
  intro M L H locs ls hw hW hl
  unfold wpX7_lowerAll at hw
  refine lv_iconst (v := (0 : Int32)) hx hb0 dX7_lowerAll_0 (by decide) ?_
  refine lv_istore_n (lv' := [(1, .int (0 : Int32)), (0, .ref (ad b))]) hx hb0 dX7_lowerAll_1 rfl hl (by decide) rfl (fun ls hl => ?_)
  obtain ⟨n_2, hw⟩ := hw
  exact mX7_lowerAll_2 X hb post hret n_2 M L (0 : Int32) _ _ ls hw hW (lv_sub hl [1, 0] rfl)
theorem kX7_lowerAll (l : Launch) (D : va_G) (cy : Nat → ClassId) (ad : Nat → Nat) (hi : zInj ad) {b : Nat} (hb : isY b) : zMv l yX7_lowerAll (.code yX7_lowerAll cX7_lowerAll 2 none :: zG) rmX7_lowerAll D cy ad [.ref (ad b)] (wpX7_lowerAll b) :=
  zMv_of (by decide +kernel) (Nat.le_of_ble_eq_true rfl) hi (fun X M L post _ hret ls hl hw hW => mX7_lowerAll X hb post hret M L _ _ ls hw hW hl)
abbrev rmX7_carryOut : Room := { frames := 3, cells := 0, slots := 0, locals := 66 }
set_option maxRecDepth 20000 in
set_option maxHeartbeats 4000000 in
theorem mX7_carryOut_131 {p : Program} {l : Launch} {e : Env} {s : State} {m : MethodId} {args : Array Value} {below : List Frame} {meth : Method} {c : Code} {cells slots : Nat} {Q : State → Prop} {D : va_G} {cy : Nat → ClassId} {ad : Nat → Nat} {A : Nat → Prop} (X : zCx p rmX7_carryOut s m args c cells slots cX7_carryOut 3 RX7 D cy ad A) {b : Nat} (hb : isY b) (post : Mm → Ml → Prop) (hret : zRv p l e rmX7_carryOut s m args below meth c cells slots Q cX7_carryOut D cy ad A post) : ∀ (M : Mm) (L : Ml) (H : Heap) (locs : List Loc) (ls : Array Slot), wpX7_carryOut_131 b post M L → zWd D cy ad A s H locs M L → lv_has ls 3 [] → W p l e rmX7_carryOut s m args below meth c H locs cells slots Q (F0 m 131 ls []) := by
  have hx := X.1.1; have hb0 := X.1.2.1; have hts := X.1.2.2.2.2
  intro M L H locs ls hw hW hl
  unfold wpX7_carryOut_131 at hw
  exact hret _ ls _ _ M L dX7_carryOut_131 hw hW
set_option maxRecDepth 20000 in
set_option maxHeartbeats 4000000 in
theorem mX7_carryOut_127 {p : Program} {l : Launch} {e : Env} {s : State} {m : MethodId} {args : Array Value} {below : List Frame} {meth : Method} {c : Code} {cells slots : Nat} {Q : State → Prop} {D : va_G} {cy : Nat → ClassId} {ad : Nat → Nat} {A : Nat → Prop} (X : zCx p rmX7_carryOut s m args c cells slots cX7_carryOut 3 RX7 D cy ad A) {b : Nat} (hb : isY b) (post : Mm → Ml → Prop) (hret : zRv p l e rmX7_carryOut s m args below meth c cells slots Q cX7_carryOut D cy ad A post) : ∀ (M : Mm) (L : Ml) (H : Heap) (locs : List Loc) (ls : Array Slot), wpX7_carryOut_127 b post M L → zWd D cy ad A s H locs M L → lv_has ls 3 [(0, .ref (ad b))] → W p l e rmX7_carryOut s m args below meth c H locs cells slots Q (F0 m 127 ls []) := by
  have hx := X.1.1; have hb0 := X.1.2.1; have hts := X.1.2.2.2.2
  intro M L H locs ls hw hW hl
  unfold wpX7_carryOut_127 at hw
  refine lv_aload_n hx hb0 dX7_carryOut_127 rfl (lv_at hl 0 rfl) ?_
  refine z_Vv X (zOY hb) zC5 zc_X7_lowerAll zs_X7_lowerAll zl_X7_87 rfl ⟨rfl, rfl⟩ ⟨Nat.le_of_ble_eq_true rfl, Nat.le_of_ble_eq_true rfl⟩ (kX7_lowerAll l D cy ad X.2.2.2.1 hb) hW hw hl.1 rfl rfl (Nat.le_of_ble_eq_true rfl) dX7_carryOut_128 (fun M_128 L_128 H_128 locs_128 hw hW => ?_)
  exact mX7_carryOut_131 X hb post hret M_128 L_128 _ _ ls hw hW (lv_sub hl [] rfl)
set_option maxRecDepth 20000 in
set_option maxHeartbeats 4000000 in
theorem mX7_carryOut {p : Program} {l : Launch} {e : Env} {s : State} {m : MethodId} {args : Array Value} {below : List Frame} {meth : Method} {c : Code} {cells slots : Nat} {Q : State → Prop} {D : va_G} {cy : Nat → ClassId} {ad : Nat → Nat} {A : Nat → Prop} (X : zCx p rmX7_carryOut s m args c cells slots cX7_carryOut 3 RX7 D cy ad A) {b : Nat} (hb : isY b) (post : Mm → Ml → Prop) (hret : zRv p l e rmX7_carryOut s m args below meth c cells slots Q cX7_carryOut D cy ad A post) : ∀ (M : Mm) (L : Ml) (x1 : Int32) (x2 : Int32) (H : Heap) (locs : List Loc) (ls : Array Slot), wpX7_carryOut b x1 x2 M L post → zWd D cy ad A s H locs M L → lv_has ls 3 [(0, .ref (ad b)), (1, .int x1), (2, .int x2)] → W p l e rmX7_carryOut s m args below meth c H locs cells slots Q (F0 m 0 ls []) := by
  have hx := X.1.1; have hb0 := X.1.2.1; have hts := X.1.2.2.2.2
  intro M L x1 x2 H locs ls hw hW hl
  unfold wpX7_carryOut at hw
  refine lv_iload_n hx hb0 dX7_carryOut_0 rfl (lv_at hl 1 rfl) ?_
  by_cases c_1_0 : x1 = (0 : Int32)
  · replace hw := hw.1 c_1_0
    refine lv_tableIn (tgt := 89) (off := 88) hx hb0 dX7_carryOut_1 (by rw [c_1_0]; decide) (by rw [c_1_0]; decide) (by rw [c_1_0]; rfl) (by decide) ?_
    refine lv_aload_n hx hb0 dX7_carryOut_89 rfl (lv_at hl 0 rfl) ?_
    refine lv_aload_n hx hb0 dX7_carryOut_90 rfl (lv_at hl 0 rfl) ?_
    refine z_getI X hW zC5 (zFY_8 hb) (by decide) rfl zl_X7_37 dX7_carryOut_91 ?_
    refine z_Vv X (zOY hb) zC5 zc_X7_growAll zs_X7_growAll zl_X7_80 rfl ⟨rfl, rfl⟩ ⟨Nat.le_of_ble_eq_true rfl, Nat.le_of_ble_eq_true rfl⟩ (kX7_growAll l D cy ad X.2.2.2.1 hb (M b 8)) hW hw hl.1 rfl rfl (Nat.le_of_ble_eq_true rfl) dX7_carryOut_94 (fun M_94 L_94 H_94 locs_94 hw hW => ?_)
    refine lv_goto (tgt := 131) hx hb0 dX7_carryOut_97 (by decide) ?_
    exact mX7_carryOut_131 X hb post hret M_94 L_94 _ _ ls hw hW (lv_sub hl [] rfl)
  · replace hw := hw.2 c_1_0
    by_cases c_1_1 : x1 = (1 : Int32)
    · replace hw := hw.1 c_1_1
      refine lv_tableIn (tgt := 100) (off := 99) hx hb0 dX7_carryOut_1 (by rw [c_1_1]; decide) (by rw [c_1_1]; decide) (by rw [c_1_1]; rfl) (by decide) ?_
      refine lv_aload_n hx hb0 dX7_carryOut_100 rfl (lv_at hl 0 rfl) ?_
      refine lv_aload_n hx hb0 dX7_carryOut_101 rfl (lv_at hl 0 rfl) ?_
      refine z_getI X hW zC5 (zFY_9 hb) (by decide) rfl zl_X7_40 dX7_carryOut_102 ?_
      refine z_Vv X (zOY hb) zC5 zc_X7_growAll zs_X7_growAll zl_X7_80 rfl ⟨rfl, rfl⟩ ⟨Nat.le_of_ble_eq_true rfl, Nat.le_of_ble_eq_true rfl⟩ (kX7_growAll l D cy ad X.2.2.2.1 hb (M b 9)) hW hw hl.1 rfl rfl (Nat.le_of_ble_eq_true rfl) dX7_carryOut_105 (fun M_105 L_105 H_105 locs_105 hw hW => ?_)
      refine lv_goto (tgt := 131) hx hb0 dX7_carryOut_108 (by decide) ?_
      exact mX7_carryOut_131 X hb post hret M_105 L_105 _ _ ls hw hW (lv_sub hl [] rfl)
    · replace hw := hw.2 c_1_1
      by_cases c_1_2 : x1 = (2 : Int32)
      · replace hw := hw.1 c_1_2
        refine lv_tableIn (tgt := 111) (off := 110) hx hb0 dX7_carryOut_1 (by rw [c_1_2]; decide) (by rw [c_1_2]; decide) (by rw [c_1_2]; rfl) (by decide) ?_
        refine lv_aload_n hx hb0 dX7_carryOut_111 rfl (lv_at hl 0 rfl) ?_
        refine lv_iconst (v := (-1 : Int32)) hx hb0 dX7_carryOut_112 (by decide) ?_
        refine z_Vv X (zOY hb) zC5 zc_X7_blowAll zs_X7_blowAll zl_X7_84 rfl ⟨rfl, rfl⟩ ⟨Nat.le_of_ble_eq_true rfl, Nat.le_of_ble_eq_true rfl⟩ (kX7_blowAll l D cy ad X.2.2.2.1 hb (-1 : Int32)) hW hw hl.1 rfl rfl (Nat.le_of_ble_eq_true rfl) dX7_carryOut_113 (fun M_113 L_113 H_113 locs_113 hw hW => ?_)
        refine lv_goto (tgt := 131) hx hb0 dX7_carryOut_116 (by decide) ?_
        exact mX7_carryOut_131 X hb post hret M_113 L_113 _ _ ls hw hW (lv_sub hl [] rfl)
      · replace hw := hw.2 c_1_2
        by_cases c_1_3 : x1 = (3 : Int32)
        · replace hw := hw.1 c_1_3
          refine lv_tableIn (tgt := 119) (off := 118) hx hb0 dX7_carryOut_1 (by rw [c_1_3]; decide) (by rw [c_1_3]; decide) (by rw [c_1_3]; rfl) (by decide) ?_
          refine lv_aload_n hx hb0 dX7_carryOut_119 rfl (lv_at hl 0 rfl) ?_
          refine lv_iconst (v := (1 : Int32)) hx hb0 dX7_carryOut_120 (by decide) ?_
          refine z_Vv X (zOY hb) zC5 zc_X7_blowAll zs_X7_blowAll zl_X7_84 rfl ⟨rfl, rfl⟩ ⟨Nat.le_of_ble_eq_true rfl, Nat.le_of_ble_eq_true rfl⟩ (kX7_blowAll l D cy ad X.2.2.2.1 hb (1 : Int32)) hW hw hl.1 rfl rfl (Nat.le_of_ble_eq_true rfl) dX7_carryOut_121 (fun M_121 L_121 H_121 locs_121 hw hW => ?_)
          refine lv_goto (tgt := 131) hx hb0 dX7_carryOut_124 (by decide) ?_
          exact mX7_carryOut_131 X hb post hret M_121 L_121 _ _ ls hw hW (lv_sub hl [] rfl)
        · replace hw := hw.2 c_1_3
          by_cases c_1_4 : x1 = (4 : Int32)
          · replace hw := hw.1 c_1_4
            refine lv_tableIn (tgt := 127) (off := 126) hx hb0 dX7_carryOut_1 (by rw [c_1_4]; decide) (by rw [c_1_4]; decide) (by rw [c_1_4]; rfl) (by decide) ?_
            exact mX7_carryOut_127 X hb post hret M L _ _ ls hw hW (lv_sub hl [0] rfl)
          · replace hw := hw.2 c_1_4
            by_cases c_1_5 : x1 = (5 : Int32)
            · replace hw := hw.1 c_1_5
              refine lv_tableIn (tgt := 48) (off := 47) hx hb0 dX7_carryOut_1 (by rw [c_1_5]; decide) (by rw [c_1_5]; decide) (by rw [c_1_5]; rfl) (by decide) ?_
              refine lv_aload_n hx hb0 dX7_carryOut_48 rfl (lv_at hl 0 rfl) ?_
              refine z_getR (k2 := (b + 6)) X hW zC5 (zRY_6 hb) (by decide) rfl zl_X7_31 dX7_carryOut_49 ?_
              refine lv_iload_n hx hb0 dX7_carryOut_52 rfl (lv_at hl 2 rfl) ?_
              refine lv_dup2_11 hx hb0 dX7_carryOut_53 rfl rfl ?_
              obtain ⟨g_54, hw⟩ := hw
              refine z_iald X hW (zIY_6 hb) g_54 dX7_carryOut_54 ?_
              refine lv_iconst (v := (1 : Int32)) hx hb0 dX7_carryOut_55 (by decide) ?_
              refine lv_isub hx hb0 dX7_carryOut_56 ?_
              obtain ⟨g_57, hw⟩ := hw
              refine z_iast X hW (zIY_6 hb) g_57 dX7_carryOut_57 (fun M_57 H_57 locs_57 e_57 hW => ?_)
              replace hw := hw M_57 e_57
              refine lv_goto (tgt := 131) hx hb0 dX7_carryOut_58 (by decide) ?_
              exact mX7_carryOut_131 X hb post hret M_57 L _ _ ls hw hW (lv_sub hl [] rfl)
            · replace hw := hw.2 c_1_5
              by_cases c_1_6 : x1 = (6 : Int32)
              · replace hw := hw.1 c_1_6
                refine lv_tableIn (tgt := 61) (off := 60) hx hb0 dX7_carryOut_1 (by rw [c_1_6]; decide) (by rw [c_1_6]; decide) (by rw [c_1_6]; rfl) (by decide) ?_
                refine lv_aload_n hx hb0 dX7_carryOut_61 rfl (lv_at hl 0 rfl) ?_
                refine z_getR (k2 := (b + 6)) X hW zC5 (zRY_6 hb) (by decide) rfl zl_X7_31 dX7_carryOut_62 ?_
                refine lv_iload_n hx hb0 dX7_carryOut_65 rfl (lv_at hl 2 rfl) ?_
                refine lv_dup2_11 hx hb0 dX7_carryOut_66 rfl rfl ?_
                obtain ⟨g_67, hw⟩ := hw
                refine z_iald X hW (zIY_6 hb) g_67 dX7_carryOut_67 ?_
                refine lv_iconst (v := (1 : Int32)) hx hb0 dX7_carryOut_68 (by decide) ?_
                refine lv_iadd hx hb0 dX7_carryOut_69 ?_
                obtain ⟨g_70, hw⟩ := hw
                refine z_iast X hW (zIY_6 hb) g_70 dX7_carryOut_70 (fun M_70 H_70 locs_70 e_70 hW => ?_)
                replace hw := hw M_70 e_70
                refine lv_goto (tgt := 131) hx hb0 dX7_carryOut_71 (by decide) ?_
                exact mX7_carryOut_131 X hb post hret M_70 L _ _ ls hw hW (lv_sub hl [] rfl)
              · replace hw := hw.2 c_1_6
                by_cases c_1_7 : x1 = (7 : Int32)
                · replace hw := hw.1 c_1_7
                  refine lv_tableIn (tgt := 74) (off := 73) hx hb0 dX7_carryOut_1 (by rw [c_1_7]; decide) (by rw [c_1_7]; decide) (by rw [c_1_7]; rfl) (by decide) ?_
                  refine lv_aload_n hx hb0 dX7_carryOut_74 rfl (lv_at hl 0 rfl) ?_
                  refine lv_dup hx hb0 dX7_carryOut_75 rfl ?_
                  refine z_getI X hW zC5 (zFY_7 hb) (by decide) rfl zl_X7_34 dX7_carryOut_76 ?_
                  refine lv_iconst (v := (1 : Int32)) hx hb0 dX7_carryOut_79 (by decide) ?_
                  refine lv_iload_n hx hb0 dX7_carryOut_80 rfl (lv_at hl 2 rfl) ?_
                  refine lv_ishl hx hb0 dX7_carryOut_81 ?_
                  refine lv_ixor hx hb0 dX7_carryOut_82 ?_
                  refine z_put (ty := .int) X hW zC5 (zFY_7 hb) (by decide) rfl zl_X7_34 rfl (by decide +kernel) rfl rfl dX7_carryOut_83 (fun M_83 H_83 locs_83 e_83 hW => ?_)
                  replace hw := hw M_83 e_83
                  refine lv_goto (tgt := 131) hx hb0 dX7_carryOut_86 (by decide) ?_
                  exact mX7_carryOut_131 X hb post hret M_83 L _ _ ls hw hW (lv_sub hl [] rfl)
                · replace hw := hw.2 c_1_7
                  refine lv_tableOut (tgt := 127) hx hb0 dX7_carryOut_1 (by have q0 : ¬ x1.toInt = 0 := lv_neT c_1_0 (by decide); have q1 : ¬ x1.toInt = 1 := lv_neT c_1_1 (by decide); have q2 : ¬ x1.toInt = 2 := lv_neT c_1_2 (by decide); have q3 : ¬ x1.toInt = 3 := lv_neT c_1_3 (by decide); have q4 : ¬ x1.toInt = 4 := lv_neT c_1_4 (by decide); have q5 : ¬ x1.toInt = 5 := lv_neT c_1_5 (by decide); have q6 : ¬ x1.toInt = 6 := lv_neT c_1_6 (by decide); have q7 : ¬ x1.toInt = 7 := lv_neT c_1_7 (by decide); omega) (by decide) ?_
                  exact mX7_carryOut_127 X hb post hret M L _ _ ls hw hW (lv_sub hl [0] rfl)
theorem kX7_carryOut (l : Launch) (D : va_G) (cy : Nat → ClassId) (ad : Nat → Nat) (hi : zInj ad) {b : Nat} (hb : isY b) (x1 : Int32) (x2 : Int32) : zMv l yX7_carryOut (.code yX7_carryOut cX7_carryOut 3 none :: zG) rmX7_carryOut D cy ad [.ref (ad b), .int x1, .int x2] (wpX7_carryOut b x1 x2) :=
  zMv_of (by decide +kernel) (Nat.le_of_ble_eq_true rfl) hi (fun X M L post _ hret ls hl hw hW => mX7_carryOut X hb post hret M L x1 x2 _ _ ls hw hW hl)
abbrev rmX7_delivered : Room := { frames := 0, cells := 0, slots := 0, locals := 0 }
set_option maxRecDepth 20000 in
set_option maxHeartbeats 4000000 in
theorem mX7_delivered_31 {p : Program} {l : Launch} {e : Env} {s : State} {m : MethodId} {args : Array Value} {below : List Frame} {meth : Method} {c : Code} {cells slots : Nat} {Q : State → Prop} {D : va_G} {cy : Nat → ClassId} {ad : Nat → Nat} {A : Nat → Prop} (X : zCx p rmX7_delivered s m args c cells slots cX7_delivered 3 RX7 D cy ad A) {b : Nat} (hb : isY b) (post : Int32 → Mm → Ml → Prop) (hret : zRi p l e rmX7_delivered s m args below meth c cells slots Q cX7_delivered D cy ad A .int post) (K4 : Mm → Ml → Int32 → Int32 → Prop) (hK4 : ∀ (M : Mm) (L : Ml) (v1 : Int32) (v2 : Int32) (H : Heap) (locs : List Loc) (ls : Array Slot), K4 M L v1 v2 → zWd D cy ad A s H locs M L → lv_has ls 3 [(0, .ref (ad b)), (1, .int v1), (2, .int v2)] → W p l e rmX7_delivered s m args below meth c H locs cells slots Q (F0 m 4 ls [])) : ∀ (M : Mm) (L : Ml) (v1 : Int32) (v2 : Int32) (H : Heap) (locs : List Loc) (ls : Array Slot), wpX7_delivered_31 b post K4 M L v1 v2 → zWd D cy ad A s H locs M L → lv_has ls 3 [(0, .ref (ad b)), (1, .int v1), (2, .int v2)] → W p l e rmX7_delivered s m args below meth c H locs cells slots Q (F0 m 31 ls []) := by
  have hx := X.1.1; have hb0 := X.1.2.1; have hts := X.1.2.2.2.2
  intro M L v1 v2 H locs ls hw hW hl
  unfold wpX7_delivered_31 at hw
  obtain ⟨a_31, e_31⟩ : ∃ y : Int32, y = v2 + (1 : Int32) := ⟨_, rfl⟩
  replace hw := hw a_31 e_31
  refine lv_iinc (v := a_31) (lv' := [(2, .int a_31), (0, .ref (ad b)), (1, .int v1)]) hx hb0 dX7_delivered_31 hl (k := 2) rfl (by rw [e_31]; rfl) (by decide) rfl (fun ls hl => ?_)
  refine lv_goto (tgt := 4) hx hb0 dX7_delivered_34 (by decide) ?_
  exact hK4 M L v1 a_31 _ _ ls hw hW (lv_sub hl [1, 2, 0] rfl)
set_option maxRecDepth 20000 in
set_option maxHeartbeats 4000000 in
theorem mX7_delivered_4 {p : Program} {l : Launch} {e : Env} {s : State} {m : MethodId} {args : Array Value} {below : List Frame} {meth : Method} {c : Code} {cells slots : Nat} {Q : State → Prop} {D : va_G} {cy : Nat → ClassId} {ad : Nat → Nat} {A : Nat → Prop} (X : zCx p rmX7_delivered s m args c cells slots cX7_delivered 3 RX7 D cy ad A) {b : Nat} (hb : isY b) (post : Int32 → Mm → Ml → Prop) (hret : zRi p l e rmX7_delivered s m args below meth c cells slots Q cX7_delivered D cy ad A .int post) : ∀ (j9 : Nat) (M : Mm) (L : Ml) (v1 : Int32) (v2 : Int32) (H : Heap) (locs : List Loc) (ls : Array Slot), wlX7_delivered_4 b post j9 (M, L, v1, v2) → zWd D cy ad A s H locs M L → lv_has ls 3 [(0, .ref (ad b)), (1, .int v1), (2, .int v2)] → W p l e rmX7_delivered s m args below meth c H locs cells slots Q (F0 m 4 ls []) := by
  have hx := X.1.1; have hb0 := X.1.2.1; have hts := X.1.2.2.2.2
  intro j9
  induction j9 with
  | zero => intro M L v1 v2 H locs ls hw; exact hw.elim
  | succ j9 ih =>
    obtain ⟨K4, hKe⟩ : ∃ K : Mm → Ml → Int32 → Int32 → Prop, K = fun M L v1 v2 => wlX7_delivered_4 b post j9 (M, L, v1, v2) := ⟨_, rfl⟩
    have hK4 : ∀ (M : Mm) (L : Ml) (v1 : Int32) (v2 : Int32) (H : Heap) (locs : List Loc) (ls : Array Slot), K4 M L v1 v2 → zWd D cy ad A s H locs M L → lv_has ls 3 [(0, .ref (ad b)), (1, .int v1), (2, .int v2)] → W p l e rmX7_delivered s m args below meth c H locs cells slots Q (F0 m 4 ls []) := by intro M L v1 v2 H locs ls hw; rw [hKe] at hw; exact ih M L v1 v2 H locs ls hw
    intro M L v1 v2 H locs ls hw hW hl
    have hw : wpX7_delivered_4 b post K4 M L v1 v2 := by rw [hKe]; exact hw
    clear ih
    unfold wpX7_delivered_4 at hw
    refine lv_iload_n hx hb0 dX7_delivered_4 rfl (lv_at hl 2 rfl) ?_
    refine lv_bipush (v := (8 : Int32)) hx hb0 dX7_delivered_5 (by decide) ?_
    refine lv_icmp_ge (tgt := 37) hx hb0 dX7_delivered_7 (by decide) (fun c_7 => ?_) (fun c_7 => ?_)
    · replace hw := hw.1 c_7
      refine lv_iload_n hx hb0 dX7_delivered_37 rfl (lv_at hl 1 rfl) ?_
      refine lv_aload_n hx hb0 dX7_delivered_38 rfl (lv_at hl 0 rfl) ?_
      refine z_getI X hW zC5 (zFY_0 hb) (by decide) rfl zl_X7_9 dX7_delivered_39 ?_
      refine lv_iand hx hb0 dX7_delivered_42 ?_
      exact hret _ ls _ _ (v1 &&& (M b 0)) M L dX7_delivered_43 rfl hw hW
    · replace hw := hw.2 c_7
      refine lv_aload_n hx hb0 dX7_delivered_10 rfl (lv_at hl 0 rfl) ?_
      refine z_getR (k2 := (b + 5)) X hW zC5 (zRY_5 hb) (by decide) rfl zl_X7_28 dX7_delivered_11 ?_
      refine lv_iload_n hx hb0 dX7_delivered_14 rfl (lv_at hl 2 rfl) ?_
      obtain ⟨g_15, hw⟩ := hw
      refine z_iald X hW (zIY_5 hb) g_15 dX7_delivered_15 ?_
      refine lv_aload_n hx hb0 dX7_delivered_16 rfl (lv_at hl 0 rfl) ?_
      refine z_getR (k2 := (b + 4)) X hW zC5 (zRY_4 hb) (by decide) rfl zl_X7_25 dX7_delivered_17 ?_
      refine lv_iload_n hx hb0 dX7_delivered_20 rfl (lv_at hl 2 rfl) ?_
      obtain ⟨g_21, hw⟩ := hw
      refine z_iald X hW (zIY_4 hb) g_21 dX7_delivered_21 ?_
      refine lv_icmp_ne (tgt := 31) hx hb0 dX7_delivered_22 (by decide) (fun c_22 => ?_) (fun c_22 => ?_)
      · replace hw := hw.1 c_22
        exact mX7_delivered_31 X hb post hret K4 hK4 M L v1 v2 _ _ ls hw hW (lv_sub hl [0, 1, 2] rfl)
      · replace hw := hw.2 c_22
        refine lv_iload_n hx hb0 dX7_delivered_25 rfl (lv_at hl 1 rfl) ?_
        refine lv_iconst (v := (1 : Int32)) hx hb0 dX7_delivered_26 (by decide) ?_
        refine lv_iload_n hx hb0 dX7_delivered_27 rfl (lv_at hl 2 rfl) ?_
        refine lv_ishl hx hb0 dX7_delivered_28 ?_
        refine lv_ior hx hb0 dX7_delivered_29 ?_
        refine lv_topi (fun a_30 e_30 => ?_)
        replace hw := hw a_30 e_30
        refine lv_istore_n (lv' := [(1, .int a_30), (0, .ref (ad b)), (2, .int v2)]) hx hb0 dX7_delivered_30 rfl hl (by decide) rfl (fun ls hl => ?_)
        exact mX7_delivered_31 X hb post hret K4 hK4 M L a_30 v2 _ _ ls hw hW (lv_sub hl [1, 0, 2] rfl)
set_option maxRecDepth 20000 in
set_option maxHeartbeats 4000000 in
theorem mX7_delivered {p : Program} {l : Launch} {e : Env} {s : State} {m : MethodId} {args : Array Value} {below : List Frame} {meth : Method} {c : Code} {cells slots : Nat} {Q : State → Prop} {D : va_G} {cy : Nat → ClassId} {ad : Nat → Nat} {A : Nat → Prop} (X : zCx p rmX7_delivered s m args c cells slots cX7_delivered 3 RX7 D cy ad A) {b : Nat} (hb : isY b) (post : Int32 → Mm → Ml → Prop) (hret : zRi p l e rmX7_delivered s m args below meth c cells slots Q cX7_delivered D cy ad A .int post) : ∀ (M : Mm) (L : Ml) (H : Heap) (locs : List Loc) (ls : Array Slot), wpX7_delivered b M L post → zWd D cy ad A s H locs M L → lv_has ls 3 [(0, .ref (ad b))] → W p l e rmX7_delivered s m args below meth c H locs cells slots Q (F0 m 0 ls []) := by
  have hx := X.1.1; have hb0 := X.1.2.1; have hts := X.1.2.2.2.2
  intro M L H locs ls hw hW hl
  unfold wpX7_delivered at hw
  refine lv_iconst (v := (0 : Int32)) hx hb0 dX7_delivered_0 (by decide) ?_
  refine lv_istore_n (lv' := [(1, .int (0 : Int32)), (0, .ref (ad b))]) hx hb0 dX7_delivered_1 rfl hl (by decide) rfl (fun ls hl => ?_)
  refine lv_iconst (v := (0 : Int32)) hx hb0 dX7_delivered_2 (by decide) ?_
  refine lv_istore_n (lv' := [(2, .int (0 : Int32)), (1, .int (0 : Int32)), (0, .ref (ad b))]) hx hb0 dX7_delivered_3 rfl hl (by decide) rfl (fun ls hl => ?_)
  obtain ⟨n_4, hw⟩ := hw
  exact mX7_delivered_4 X hb post hret n_4 M L (0 : Int32) (0 : Int32) _ _ ls hw hW (lv_sub hl [2, 1, 0] rfl)
theorem kX7_delivered (l : Launch) (D : va_G) (cy : Nat → ClassId) (ad : Nat → Nat) (hi : zInj ad) {b : Nat} (hb : isY b) : zMi l yX7_delivered (.code yX7_delivered cX7_delivered 3 (some .int) :: zG) rmX7_delivered D cy ad [.ref (ad b)] (wpX7_delivered b) :=
  zMi_of (by decide +kernel) (Nat.le_of_ble_eq_true rfl) hi (fun X M L post _ hret ls hl hw hW => mX7_delivered X hb post hret M L _ _ ls hw hW hl)
abbrev rmX7_whyNot : Room := { frames := 1, cells := 0, slots := 0, locals := 22 }
set_option maxRecDepth 20000 in
set_option maxHeartbeats 4000000 in
theorem mX7_whyNot_42 {p : Program} {l : Launch} {e : Env} {s : State} {m : MethodId} {args : Array Value} {below : List Frame} {meth : Method} {c : Code} {cells slots : Nat} {Q : State → Prop} {D : va_G} {cy : Nat → ClassId} {ad : Nat → Nat} {A : Nat → Prop} (X : zCx p rmX7_whyNot s m args c cells slots cX7_whyNot 3 RX7 D cy ad A) {b : Nat} (hb : isY b) (post : Int32 → Mm → Ml → Prop) (hret : zRi p l e rmX7_whyNot s m args below meth c cells slots Q cX7_whyNot D cy ad A .int post) : ∀ (M : Mm) (L : Ml) (s0 : Int32) (H : Heap) (locs : List Loc) (ls : Array Slot), wpX7_whyNot_42 b post M L s0 → zWd D cy ad A s H locs M L → lv_has ls 3 [] → W p l e rmX7_whyNot s m args below meth c H locs cells slots Q (F0 m 42 ls [.int s0]) := by
  have hx := X.1.1; have hb0 := X.1.2.1; have hts := X.1.2.2.2.2
  intro M L s0 H locs ls hw hW hl
  unfold wpX7_whyNot_42 at hw
  exact hret _ ls _ _ s0 M L dX7_whyNot_42 rfl hw hW
set_option maxRecDepth 20000 in
set_option maxHeartbeats 4000000 in
theorem mX7_whyNot_59 {p : Program} {l : Launch} {e : Env} {s : State} {m : MethodId} {args : Array Value} {below : List Frame} {meth : Method} {c : Code} {cells slots : Nat} {Q : State → Prop} {D : va_G} {cy : Nat → ClassId} {ad : Nat → Nat} {A : Nat → Prop} (X : zCx p rmX7_whyNot s m args c cells slots cX7_whyNot 3 RX7 D cy ad A) {b : Nat} (hb : isY b) (post : Int32 → Mm → Ml → Prop) (hret : zRi p l e rmX7_whyNot s m args below meth c cells slots Q cX7_whyNot D cy ad A .int post) : ∀ (M : Mm) (L : Ml) (s0 : Int32) (H : Heap) (locs : List Loc) (ls : Array Slot), wpX7_whyNot_59 b post M L s0 → zWd D cy ad A s H locs M L → lv_has ls 3 [] → W p l e rmX7_whyNot s m args below meth c H locs cells slots Q (F0 m 59 ls [.int s0]) := by
  have hx := X.1.1; have hb0 := X.1.2.1; have hts := X.1.2.2.2.2
  intro M L s0 H locs ls hw hW hl
  unfold wpX7_whyNot_59 at hw
  exact hret _ ls _ _ s0 M L dX7_whyNot_59 rfl hw hW
set_option maxRecDepth 20000 in
set_option maxHeartbeats 4000000 in
theorem mX7_whyNot_74 {p : Program} {l : Launch} {e : Env} {s : State} {m : MethodId} {args : Array Value} {below : List Frame} {meth : Method} {c : Code} {cells slots : Nat} {Q : State → Prop} {D : va_G} {cy : Nat → ClassId} {ad : Nat → Nat} {A : Nat → Prop} (X : zCx p rmX7_whyNot s m args c cells slots cX7_whyNot 3 RX7 D cy ad A) {b : Nat} (hb : isY b) (post : Int32 → Mm → Ml → Prop) (hret : zRi p l e rmX7_whyNot s m args below meth c cells slots Q cX7_whyNot D cy ad A .int post) : ∀ (M : Mm) (L : Ml) (s0 : Int32) (H : Heap) (locs : List Loc) (ls : Array Slot), wpX7_whyNot_74 b post M L s0 → zWd D cy ad A s H locs M L → lv_has ls 3 [] → W p l e rmX7_whyNot s m args below meth c H locs cells slots Q (F0 m 74 ls [.int s0]) := by
  have hx := X.1.1; have hb0 := X.1.2.1; have hts := X.1.2.2.2.2
  intro M L s0 H locs ls hw hW hl
  unfold wpX7_whyNot_74 at hw
  exact hret _ ls _ _ s0 M L dX7_whyNot_74 rfl hw hW
set_option maxRecDepth 20000 in
set_option maxHeartbeats 4000000 in
theorem mX7_whyNot {p : Program} {l : Launch} {e : Env} {s : State} {m : MethodId} {args : Array Value} {below : List Frame} {meth : Method} {c : Code} {cells slots : Nat} {Q : State → Prop} {D : va_G} {cy : Nat → ClassId} {ad : Nat → Nat} {A : Nat → Prop} (X : zCx p rmX7_whyNot s m args c cells slots cX7_whyNot 3 RX7 D cy ad A) {b : Nat} (hb : isY b) (post : Int32 → Mm → Ml → Prop) (hret : zRi p l e rmX7_whyNot s m args below meth c cells slots Q cX7_whyNot D cy ad A .int post) : ∀ (M : Mm) (L : Ml) (x1 : Int32) (x2 : Int32) (H : Heap) (locs : List Loc) (ls : Array Slot), wpX7_whyNot b x1 x2 M L post → zWd D cy ad A s H locs M L → lv_has ls 3 [(0, .ref (ad b)), (1, .int x1), (2, .int x2)] → W p l e rmX7_whyNot s m args below meth c H locs cells slots Q (F0 m 0 ls []) := by
  have hx := X.1.1; have hb0 := X.1.2.1; have hts := X.1.2.2.2.2
  intro M L x1 x2 H locs ls hw hW hl
  unfold wpX7_whyNot at hw
  refine lv_iload_n hx hb0 dX7_whyNot_0 rfl (lv_at hl 1 rfl) ?_
  by_cases c_1_0 : x1 = (5 : Int32)
  · replace hw := hw.1 c_1_0
    refine lv_tableIn (tgt := 28) (off := 27) hx hb0 dX7_whyNot_1 (by rw [c_1_0]; decide) (by rw [c_1_0]; decide) (by rw [c_1_0]; rfl) (by decide) ?_
    refine lv_aload_n hx hb0 dX7_whyNot_28 rfl (lv_at hl 0 rfl) ?_
    refine z_getR (k2 := (b + 6)) X hW zC5 (zRY_6 hb) (by decide) rfl zl_X7_31 dX7_whyNot_29 ?_
    refine lv_iload_n hx hb0 dX7_whyNot_32 rfl (lv_at hl 2 rfl) ?_
    obtain ⟨g_33, hw⟩ := hw
    refine z_iald X hW (zIY_6 hb) g_33 dX7_whyNot_33 ?_
    refine lv_if_ne (tgt := 41) hx hb0 dX7_whyNot_34 (by decide) (fun c_34 => ?_) (fun c_34 => ?_)
    · replace hw := hw.1 c_34
      refine lv_iconst (v := (0 : Int32)) hx hb0 dX7_whyNot_41 (by decide) ?_
      exact mX7_whyNot_42 X hb post hret M L (0 : Int32) _ _ ls hw hW (lv_sub hl [] rfl)
    · replace hw := hw.2 c_34
      refine lv_iconst (v := (1 : Int32)) hx hb0 dX7_whyNot_37 (by decide) ?_
      refine lv_goto (tgt := 42) hx hb0 dX7_whyNot_38 (by decide) ?_
      exact mX7_whyNot_42 X hb post hret M L (1 : Int32) _ _ ls hw hW (lv_sub hl [] rfl)
  · replace hw := hw.2 c_1_0
    by_cases c_1_1 : x1 = (6 : Int32)
    · replace hw := hw.1 c_1_1
      refine lv_tableIn (tgt := 43) (off := 42) hx hb0 dX7_whyNot_1 (by rw [c_1_1]; decide) (by rw [c_1_1]; decide) (by rw [c_1_1]; rfl) (by decide) ?_
      refine lv_aload_n hx hb0 dX7_whyNot_43 rfl (lv_at hl 0 rfl) ?_
      refine z_getR (k2 := (b + 6)) X hW zC5 (zRY_6 hb) (by decide) rfl zl_X7_31 dX7_whyNot_44 ?_
      refine lv_iload_n hx hb0 dX7_whyNot_47 rfl (lv_at hl 2 rfl) ?_
      obtain ⟨g_48, hw⟩ := hw
      refine z_iald X hW (zIY_6 hb) g_48 dX7_whyNot_48 ?_
      refine lv_bipush (v := (15 : Int32)) hx hb0 dX7_whyNot_49 (by decide) ?_
      refine lv_icmp_ne (tgt := 58) hx hb0 dX7_whyNot_51 (by decide) (fun c_51 => ?_) (fun c_51 => ?_)
      · replace hw := hw.1 c_51
        refine lv_iconst (v := (0 : Int32)) hx hb0 dX7_whyNot_58 (by decide) ?_
        exact mX7_whyNot_59 X hb post hret M L (0 : Int32) _ _ ls hw hW (lv_sub hl [] rfl)
      · replace hw := hw.2 c_51
        refine lv_iconst (v := (1 : Int32)) hx hb0 dX7_whyNot_54 (by decide) ?_
        refine lv_goto (tgt := 59) hx hb0 dX7_whyNot_55 (by decide) ?_
        exact mX7_whyNot_59 X hb post hret M L (1 : Int32) _ _ ls hw hW (lv_sub hl [] rfl)
    · replace hw := hw.2 c_1_1
      by_cases c_1_2 : x1 = (7 : Int32)
      · replace hw := hw.1 c_1_2
        refine lv_tableIn (tgt := 60) (off := 59) hx hb0 dX7_whyNot_1 (by rw [c_1_2]; decide) (by rw [c_1_2]; decide) (by rw [c_1_2]; rfl) (by decide) ?_
        refine lv_iconst (v := (0 : Int32)) hx hb0 dX7_whyNot_60 (by decide) ?_
        exact hret _ ls _ _ (0 : Int32) M L dX7_whyNot_61 rfl hw hW
      · replace hw := hw.2 c_1_2
        refine lv_tableOut (tgt := 62) hx hb0 dX7_whyNot_1 (by have q0 : ¬ x1.toInt = 5 := lv_neT c_1_0 (by decide); have q1 : ¬ x1.toInt = 6 := lv_neT c_1_1 (by decide); have q2 : ¬ x1.toInt = 7 := lv_neT c_1_2 (by decide); omega) (by decide) ?_
        refine lv_aload_n hx hb0 dX7_whyNot_62 rfl (lv_at hl 0 rfl) ?_
        refine z_Vi X (zOY hb) zC5 zc_X7_falling zs_X7_falling zl_X7_66 rfl ⟨rfl, rfl⟩ ⟨Nat.le_of_ble_eq_true rfl, Nat.le_of_ble_eq_true rfl⟩ (kX7_falling l D cy ad X.2.2.2.1 hb) hW hw hl.1 rfl rfl (Nat.le_of_ble_eq_true rfl) dX7_whyNot_63 (fun r_63 M_63 L_63 H_63 locs_63 hw hW => ?_)
        refine lv_if_ne (tgt := 73) hx hb0 dX7_whyNot_66 (by decide) (fun c_66 => ?_) (fun c_66 => ?_)
        · replace hw := hw.1 c_66
          refine lv_iconst (v := (0 : Int32)) hx hb0 dX7_whyNot_73 (by decide) ?_
          exact mX7_whyNot_74 X hb post hret M_63 L_63 (0 : Int32) _ _ ls hw hW (lv_sub hl [] rfl)
        · replace hw := hw.2 c_66
          refine lv_iconst (v := (2 : Int32)) hx hb0 dX7_whyNot_69 (by decide) ?_
          refine lv_goto (tgt := 74) hx hb0 dX7_whyNot_70 (by decide) ?_
          exact mX7_whyNot_74 X hb post hret M_63 L_63 (2 : Int32) _ _ ls hw hW (lv_sub hl [] rfl)
theorem kX7_whyNot (l : Launch) (D : va_G) (cy : Nat → ClassId) (ad : Nat → Nat) (hi : zInj ad) {b : Nat} (hb : isY b) (x1 : Int32) (x2 : Int32) : zMi l yX7_whyNot (.code yX7_whyNot cX7_whyNot 3 (some .int) :: zG) rmX7_whyNot D cy ad [.ref (ad b), .int x1, .int x2] (wpX7_whyNot b x1 x2) :=
  zMi_of (by decide +kernel) (Nat.le_of_ble_eq_true rfl) hi (fun X M L post _ hret ls hl hw hW => mX7_whyNot X hb post hret M L x1 x2 _ _ ls hw hW hl)
abbrev rmX2_live : Room := { frames := 4, cells := 0, slots := 0, locals := 122 }
set_option maxRecDepth 20000 in
set_option maxHeartbeats 4000000 in
theorem mX2_live_118 {p : Program} {l : Launch} {e : Env} {s : State} {m : MethodId} {args : Array Value} {below : List Frame} {meth : Method} {c : Code} {cells slots : Nat} {Q : State → Prop} {D : va_G} {cy : Nat → ClassId} {ad : Nat → Nat} {A : Nat → Prop} (X : zCx p rmX2_live s m args c cells slots cX2_live 6 RX2 D cy ad A) {b : Nat} (hb : isY b) (post : Mm → Ml → Prop) (hret : zRv p l e rmX2_live s m args below meth c cells slots Q cX2_live D cy ad A post) (K7 : Mm → Ml → Int32 → Prop) (hK7 : ∀ (M : Mm) (L : Ml) (v3 : Int32) (H : Heap) (locs : List Loc) (ls : Array Slot), K7 M L v3 → zWd D cy ad A s H locs M L → lv_has ls 6 [(0, .ref (ad 6)), (2, .ref (ad 2)), (3, .int v3)] → W p l e rmX2_live s m args below meth c H locs cells slots Q (F0 m 7 ls [])) : ∀ (M : Mm) (L : Ml) (v3 : Int32) (H : Heap) (locs : List Loc) (ls : Array Slot), wpX2_live_118 b post K7 M L v3 → zWd D cy ad A s H locs M L → lv_has ls 6 [(0, .ref (ad 6)), (2, .ref (ad 2)), (3, .int v3)] → W p l e rmX2_live s m args below meth c H locs cells slots Q (F0 m 118 ls []) := by
  have hx := X.1.1; have hb0 := X.1.2.1; have hts := X.1.2.2.2.2
  intro M L v3 H locs ls hw hW hl
  unfold wpX2_live_118 at hw
  obtain ⟨a_118, e_118⟩ : ∃ y : Int32, y = v3 + (1 : Int32) := ⟨_, rfl⟩
  replace hw := hw a_118 e_118
  refine lv_iinc (v := a_118) (lv' := [(3, .int a_118), (0, .ref (ad 6)), (2, .ref (ad 2))]) hx hb0 dX2_live_118 hl (k := 2) rfl (by rw [e_118]; rfl) (by decide) rfl (fun ls hl => ?_)
  refine lv_goto (tgt := 7) hx hb0 dX2_live_121 (by decide) ?_
  exact hK7 M L a_118 _ _ ls hw hW (lv_sub hl [1, 2, 0] rfl)
set_option maxRecDepth 20000 in
set_option maxHeartbeats 4000000 in
theorem mX2_live_104 {p : Program} {l : Launch} {e : Env} {s : State} {m : MethodId} {args : Array Value} {below : List Frame} {meth : Method} {c : Code} {cells slots : Nat} {Q : State → Prop} {D : va_G} {cy : Nat → ClassId} {ad : Nat → Nat} {A : Nat → Prop} (X : zCx p rmX2_live s m args c cells slots cX2_live 6 RX2 D cy ad A) {b : Nat} (hb : isY b) (post : Mm → Ml → Prop) (hret : zRv p l e rmX2_live s m args below meth c cells slots Q cX2_live D cy ad A post) (K7 : Mm → Ml → Int32 → Prop) (hK7 : ∀ (M : Mm) (L : Ml) (v3 : Int32) (H : Heap) (locs : List Loc) (ls : Array Slot), K7 M L v3 → zWd D cy ad A s H locs M L → lv_has ls 6 [(0, .ref (ad 6)), (2, .ref (ad 2)), (3, .int v3)] → W p l e rmX2_live s m args below meth c H locs cells slots Q (F0 m 7 ls [])) : ∀ (M : Mm) (L : Ml) (v3 : Int32) (H : Heap) (locs : List Loc) (ls : Array Slot), wpX2_live_104 b post K7 M L v3 → zWd D cy ad A s H locs M L → lv_has ls 6 [(0, .ref (ad 6)), (2, .ref (ad 2)), (3, .int v3)] → W p l e rmX2_live s m args below meth c H locs cells slots Q (F0 m 104 ls []) := by
  have hx := X.1.1; have hb0 := X.1.2.1; have hts := X.1.2.2.2.2
  intro M L v3 H locs ls hw hW hl
  unfold wpX2_live_104 at hw
  refine lv_goto (tgt := 118) hx hb0 dX2_live_104 (by decide) ?_
  exact mX2_live_118 X hb post hret K7 hK7 M L v3 _ _ ls hw hW (lv_sub hl [0, 1, 2] rfl)
set_option maxRecDepth 20000 in
set_option maxHeartbeats 4000000 in
theorem mX2_live_124 {p : Program} {l : Launch} {e : Env} {s : State} {m : MethodId} {args : Array Value} {below : List Frame} {meth : Method} {c : Code} {cells slots : Nat} {Q : State → Prop} {D : va_G} {cy : Nat → ClassId} {ad : Nat → Nat} {A : Nat → Prop} (X : zCx p rmX2_live s m args c cells slots cX2_live 6 RX2 D cy ad A) {b : Nat} (hb : isY b) (post : Mm → Ml → Prop) (hret : zRv p l e rmX2_live s m args below meth c cells slots Q cX2_live D cy ad A post) : ∀ (M : Mm) (L : Ml) (H : Heap) (locs : List Loc) (ls : Array Slot), wpX2_live_124 b post M L → zWd D cy ad A s H locs M L → lv_has ls 6 [] → W p l e rmX2_live s m args below meth c H locs cells slots Q (F0 m 124 ls []) := by
  have hx := X.1.1; have hb0 := X.1.2.1; have hts := X.1.2.2.2.2
  intro M L H locs ls hw hW hl
  unfold wpX2_live_124 at hw
  exact hret _ ls _ _ M L dX2_live_124 hw hW
set_option maxRecDepth 20000 in
set_option maxHeartbeats 4000000 in
theorem mX2_live_7 {p : Program} {l : Launch} {e : Env} {s : State} {m : MethodId} {args : Array Value} {below : List Frame} {meth : Method} {c : Code} {cells slots : Nat} {Q : State → Prop} {D : va_G} {cy : Nat → ClassId} {ad : Nat → Nat} {A : Nat → Prop} (X : zCx p rmX2_live s m args c cells slots cX2_live 6 RX2 D cy ad A) {b : Nat} (hb : isY b) (post : Mm → Ml → Prop) (hret : zRv p l e rmX2_live s m args below meth c cells slots Q cX2_live D cy ad A post) : ∀ (j9 : Nat) (M : Mm) (L : Ml) (v3 : Int32) (H : Heap) (locs : List Loc) (ls : Array Slot), wlX2_live_7 b post j9 (M, L, v3) → zWd D cy ad A s H locs M L → lv_has ls 6 [(0, .ref (ad 6)), (2, .ref (ad 2)), (3, .int v3)] → W p l e rmX2_live s m args below meth c H locs cells slots Q (F0 m 7 ls []) := by
  have hx := X.1.1; have hb0 := X.1.2.1; have hts := X.1.2.2.2.2
  intro j9
  induction j9 with
  | zero => intro M L v3 H locs ls hw; exact hw.elim
  | succ j9 ih =>
    obtain ⟨K7, hKe⟩ : ∃ K : Mm → Ml → Int32 → Prop, K = fun M L v3 => wlX2_live_7 b post j9 (M, L, v3) := ⟨_, rfl⟩
    have hK7 : ∀ (M : Mm) (L : Ml) (v3 : Int32) (H : Heap) (locs : List Loc) (ls : Array Slot), K7 M L v3 → zWd D cy ad A s H locs M L → lv_has ls 6 [(0, .ref (ad 6)), (2, .ref (ad 2)), (3, .int v3)] → W p l e rmX2_live s m args below meth c H locs cells slots Q (F0 m 7 ls []) := by intro M L v3 H locs ls hw; rw [hKe] at hw; exact ih M L v3 H locs ls hw
    intro M L v3 H locs ls hw hW hl
    have hw : wpX2_live_7 b post K7 M L v3 := by rw [hKe]; exact hw
    clear ih
    unfold wpX2_live_7 at hw
    refine lv_iload_n hx hb0 dX2_live_7 rfl (lv_at hl 2 rfl) ?_
    refine lv_aload_n hx hb0 dX2_live_8 rfl (lv_at hl 1 rfl) ?_
    refine z_getIN X hW zC3 zF_2_4 (by decide) rfl zn_X2_35 dX2_live_9 ?_
    refine lv_icmp_ge (tgt := 124) hx hb0 dX2_live_12 (by decide) (fun c_12 => ?_) (fun c_12 => ?_)
    · replace hw := hw.1 c_12
      exact mX2_live_124 X hb post hret M L _ _ ls hw hW (lv_sub hl [] rfl)
    · replace hw := hw.2 c_12
      refine lv_aload_n hx hb0 dX2_live_15 rfl (lv_at hl 0 rfl) ?_
      refine z_getI X hW zC1 zF_6_1 (by decide) rfl zl_X2_18 dX2_live_16 ?_
      refine lv_bipush (v := (-6 : Int32)) hx hb0 dX2_live_19 (by decide) ?_
      refine lv_icmp_ne (tgt := 124) hx hb0 dX2_live_21 (by decide) (fun c_21 => ?_) (fun c_21 => ?_)
      · replace hw := hw.1 c_21
        exact mX2_live_124 X hb post hret M L _ _ ls hw hW (lv_sub hl [] rfl)
      · replace hw := hw.2 c_21
        refine lv_aload_n hx hb0 dX2_live_24 rfl (lv_at hl 0 rfl) ?_
        refine z_getR (k2 := 35) X hW zC1 zR_6_0 (by decide) rfl zl_X2_12 dX2_live_25 ?_
        refine lv_aload_n hx hb0 dX2_live_28 rfl (lv_at hl 1 rfl) ?_
        refine z_getRN (k2 := 4) X hW zC3 zR_2_2 (by decide) rfl zn_X2_40 dX2_live_29 ?_
        refine lv_iload_n hx hb0 dX2_live_32 rfl (lv_at hl 2 rfl) ?_
        obtain ⟨g_33, hw⟩ := hw
        refine z_iald X hW zI_4 g_33 dX2_live_33 ?_
        refine lv_aload_n hx hb0 dX2_live_34 rfl (lv_at hl 1 rfl) ?_
        refine z_getRN (k2 := 5) X hW zC3 zR_2_3 (by decide) rfl zn_X2_44 dX2_live_35 ?_
        refine lv_iload_n hx hb0 dX2_live_38 rfl (lv_at hl 2 rfl) ?_
        obtain ⟨g_39, hw⟩ := hw
        refine z_iald X hW zI_5 g_39 dX2_live_39 ?_
        refine z_VNi X (zOY isY_35) zC5 zc_X7_whyNot zs_X7_whyNot zn_X2_47 rfl ⟨rfl, rfl⟩ ⟨Nat.le_of_ble_eq_true rfl, Nat.le_of_ble_eq_true rfl⟩ (kX7_whyNot l D cy ad X.2.2.2.1 isY_35 (M 4 v3.toNatClampNeg) (M 5 v3.toNatClampNeg)) hW hw hl.1 rfl rfl (Nat.le_of_ble_eq_true rfl) dX2_live_40 (fun r_40 M_40 L_40 H_40 locs_40 hw hW => ?_)
        refine lv_istore (lv' := [(4, .int r_40), (0, .ref (ad 6)), (2, .ref (ad 2)), (3, .int v3)]) hx hb0 dX2_live_43 hl (by decide) rfl (fun ls hl => ?_)
        refine lv_iload hx hb0 dX2_live_45 (lv_at hl 0 rfl) ?_
        refine lv_if_ne (tgt := 107) hx hb0 dX2_live_47 (by decide) (fun c_47 => ?_) (fun c_47 => ?_)
        · replace hw := hw.1 c_47
          refine lv_aload_n hx hb0 dX2_live_107 rfl (lv_at hl 1 rfl) ?_
          refine lv_iload_n hx hb0 dX2_live_108 rfl (lv_at hl 3 rfl) ?_
          refine z_put (ty := .int) X hW zC1 zF_6_1 (by decide) rfl zl_X2_18 rfl (by decide +kernel) rfl rfl dX2_live_109 (fun M_109 H_109 locs_109 e_109 hW => ?_)
          replace hw := hw M_109 e_109
          refine lv_aload_n hx hb0 dX2_live_112 rfl (lv_at hl 1 rfl) ?_
          refine lv_iload hx hb0 dX2_live_113 (lv_at hl 0 rfl) ?_
          refine z_put (ty := .int) X hW zC1 zF_6_2 (by decide) rfl zl_X2_22 rfl (by decide +kernel) rfl rfl dX2_live_115 (fun M_115 H_115 locs_115 e_115 hW => ?_)
          replace hw := hw M_115 e_115
          exact mX2_live_118 X hb post hret K7 hK7 M_115 L_40 v3 _ _ ls hw hW (lv_sub hl [1, 2, 3] rfl)
        · replace hw := hw.2 c_47
          refine lv_aload_n hx hb0 dX2_live_50 rfl (lv_at hl 1 rfl) ?_
          refine z_getR (k2 := 35) X hW zC1 zR_6_0 (by decide) rfl zl_X2_12 dX2_live_51 ?_
          refine z_VNi X (zOY isY_35) zC5 zc_X7_delivered zs_X7_delivered zn_X2_51 rfl ⟨rfl, rfl⟩ ⟨Nat.le_of_ble_eq_true rfl, Nat.le_of_ble_eq_true rfl⟩ (kX7_delivered l D cy ad X.2.2.2.1 isY_35) hW hw hl.1 rfl rfl (Nat.le_of_ble_eq_true rfl) dX2_live_54 (fun r_54 M_54 L_54 H_54 locs_54 hw hW => ?_)
          refine lv_istore (lv' := [(5, .int r_54), (4, .int r_40), (0, .ref (ad 6)), (2, .ref (ad 2)), (3, .int v3)]) hx hb0 dX2_live_57 hl (by decide) rfl (fun ls hl => ?_)
          refine lv_aload_n hx hb0 dX2_live_59 rfl (lv_at hl 2 rfl) ?_
          refine z_getR (k2 := 35) X hW zC1 zR_6_0 (by decide) rfl zl_X2_12 dX2_live_60 ?_
          refine lv_aload_n hx hb0 dX2_live_63 rfl (lv_at hl 3 rfl) ?_
          refine z_getRN (k2 := 4) X hW zC3 zR_2_2 (by decide) rfl zn_X2_40 dX2_live_64 ?_
          refine lv_iload_n hx hb0 dX2_live_67 rfl (lv_at hl 4 rfl) ?_
          obtain ⟨g_68, hw⟩ := hw
          refine z_iald X hW zI_4 g_68 dX2_live_68 ?_
          refine lv_aload_n hx hb0 dX2_live_69 rfl (lv_at hl 3 rfl) ?_
          refine z_getRN (k2 := 5) X hW zC3 zR_2_3 (by decide) rfl zn_X2_44 dX2_live_70 ?_
          refine lv_iload_n hx hb0 dX2_live_73 rfl (lv_at hl 4 rfl) ?_
          obtain ⟨g_74, hw⟩ := hw
          refine z_iald X hW zI_5 g_74 dX2_live_74 ?_
          refine z_VNv X (zOY isY_35) zC5 zc_X7_carryOut zs_X7_carryOut zn_X2_55 rfl ⟨rfl, rfl⟩ ⟨Nat.le_of_ble_eq_true rfl, Nat.le_of_ble_eq_true rfl⟩ (kX7_carryOut l D cy ad X.2.2.2.1 isY_35 (M_54 4 v3.toNatClampNeg) (M_54 5 v3.toNatClampNeg)) hW hw hl.1 rfl rfl (Nat.le_of_ble_eq_true rfl) dX2_live_75 (fun M_75 L_75 H_75 locs_75 hw hW => ?_)
          refine lv_aload_n hx hb0 dX2_live_78 rfl (lv_at hl 2 rfl) ?_
          refine z_getI X hW zC1 zF_6_3 (by decide) rfl zl_X2_25 dX2_live_79 ?_
          refine lv_bipush (v := (-6 : Int32)) hx hb0 dX2_live_82 (by decide) ?_
          refine lv_icmp_ne (tgt := 104) hx hb0 dX2_live_84 (by decide) (fun c_84 => ?_) (fun c_84 => ?_)
          · replace hw := hw.1 c_84
            exact mX2_live_104 X hb post hret K7 hK7 M_75 L_75 v3 _ _ ls hw hW (lv_sub hl [2, 3, 4] rfl)
          · replace hw := hw.2 c_84
            refine lv_aload_n hx hb0 dX2_live_87 rfl (lv_at hl 2 rfl) ?_
            refine z_getR (k2 := 35) X hW zC1 zR_6_0 (by decide) rfl zl_X2_12 dX2_live_88 ?_
            refine z_VNi X (zOY isY_35) zC5 zc_X7_delivered zs_X7_delivered zn_X2_51 rfl ⟨rfl, rfl⟩ ⟨Nat.le_of_ble_eq_true rfl, Nat.le_of_ble_eq_true rfl⟩ (kX7_delivered l D cy ad X.2.2.2.1 isY_35) hW hw hl.1 rfl rfl (Nat.le_of_ble_eq_true rfl) dX2_live_91 (fun r_91 M_91 L_91 H_91 locs_91 hw hW => ?_)
            refine lv_iload hx hb0 dX2_live_94 (lv_at hl 0 rfl) ?_
            refine lv_icmp_eq (tgt := 104) hx hb0 dX2_live_96 (by decide) (fun c_96 => ?_) (fun c_96 => ?_)
            · replace hw := hw.1 c_96
              exact mX2_live_104 X hb post hret K7 hK7 M_91 L_91 v3 _ _ ls hw hW (lv_sub hl [2, 3, 4] rfl)
            · replace hw := hw.2 c_96
              refine lv_aload_n hx hb0 dX2_live_99 rfl (lv_at hl 2 rfl) ?_
              refine lv_iload_n hx hb0 dX2_live_100 rfl (lv_at hl 4 rfl) ?_
              refine z_put (ty := .int) X hW zC1 zF_6_3 (by decide) rfl zl_X2_25 rfl (by decide +kernel) rfl rfl dX2_live_101 (fun M_101 H_101 locs_101 e_101 hW => ?_)
              replace hw := hw M_101 e_101
              exact mX2_live_104 X hb post hret K7 hK7 M_101 L_91 v3 _ _ ls hw hW (lv_sub hl [2, 3, 4] rfl)
set_option maxRecDepth 20000 in
set_option maxHeartbeats 4000000 in
theorem mX2_live {p : Program} {l : Launch} {e : Env} {s : State} {m : MethodId} {args : Array Value} {below : List Frame} {meth : Method} {c : Code} {cells slots : Nat} {Q : State → Prop} {D : va_G} {cy : Nat → ClassId} {ad : Nat → Nat} {A : Nat → Prop} (X : zCx p rmX2_live s m args c cells slots cX2_live 6 RX2 D cy ad A) {b : Nat} (hb : isY b) (post : Mm → Ml → Prop) (hret : zRv p l e rmX2_live s m args below meth c cells slots Q cX2_live D cy ad A post) : ∀ (M : Mm) (L : Ml) (H : Heap) (locs : List Loc) (ls : Array Slot), wpX2_live b M L post → zWd D cy ad A s H locs M L → lv_has ls 6 [(0, .ref (ad 6)), (1, .ref (ad b)), (2, .ref (ad 2))] → W p l e rmX2_live s m args below meth c H locs cells slots Q (F0 m 0 ls []) := by
  have hx := X.1.1; have hb0 := X.1.2.1; have hts := X.1.2.2.2.2
  intro M L H locs ls hw hW hl
  unfold wpX2_live at hw
  refine lv_aload_n hx hb0 dX2_live_0 rfl (lv_at hl 0 rfl) ?_
  refine lv_aload_n hx hb0 dX2_live_1 rfl (lv_at hl 1 rfl) ?_
  refine z_Vv X zO_6 zC1 zc_X2_begin zs_X2_begin zl_X2_31 rfl ⟨rfl, rfl⟩ ⟨Nat.le_of_ble_eq_true rfl, Nat.le_of_ble_eq_true rfl⟩ (kX2_begin l D cy ad X.2.2.2.1 hb) hW hw hl.1 rfl rfl (Nat.le_of_ble_eq_true rfl) dX2_live_2 (fun M_2 L_2 H_2 locs_2 hw hW => ?_)
  refine lv_iconst (v := (0 : Int32)) hx hb0 dX2_live_5 (by decide) ?_
  refine lv_istore_n (lv' := [(3, .int (0 : Int32)), (0, .ref (ad 6)), (1, .ref (ad b)), (2, .ref (ad 2))]) hx hb0 dX2_live_6 rfl hl (by decide) rfl (fun ls hl => ?_)
  obtain ⟨n_7, hw⟩ := hw
  exact mX2_live_7 X hb post hret n_7 M_2 L_2 (0 : Int32) _ _ ls hw hW (lv_sub hl [1, 3, 0] rfl)
theorem kX2_live (l : Launch) (D : va_G) (cy : Nat → ClassId) (ad : Nat → Nat) (hi : zInj ad) {b : Nat} (hb : isY b) : zMv l yX2_live (.code yX2_live cX2_live 6 none :: zG) rmX2_live D cy ad [.ref (ad 6), .ref (ad b), .ref (ad 2)] (wpX2_live b) :=
  zMv_of (by decide +kernel) (Nat.le_of_ble_eq_true rfl) hi (fun X M L post _ hret ls hl hw hW => mX2_live X hb post hret M L _ _ ls hw hW hl)
abbrev rmX2_cameDown : Room := { frames := 2, cells := 0, slots := 0, locals := 42 }
set_option maxRecDepth 20000 in
set_option maxHeartbeats 4000000 in
theorem mX2_cameDown {p : Program} {l : Launch} {e : Env} {s : State} {m : MethodId} {args : Array Value} {below : List Frame} {meth : Method} {c : Code} {cells slots : Nat} {Q : State → Prop} {D : va_G} {cy : Nat → ClassId} {ad : Nat → Nat} {A : Nat → Prop} (X : zCx p rmX2_cameDown s m args c cells slots cX2_cameDown 1 RX2 D cy ad A) (post : Int32 → Mm → Ml → Prop) (hret : zRi p l e rmX2_cameDown s m args below meth c cells slots Q cX2_cameDown D cy ad A .int post) : ∀ (M : Mm) (L : Ml) (H : Heap) (locs : List Loc) (ls : Array Slot), wpX2_cameDown M L post → zWd D cy ad A s H locs M L → lv_has ls 1 [(0, .ref (ad 6))] → W p l e rmX2_cameDown s m args below meth c H locs cells slots Q (F0 m 0 ls []) := by
  have hx := X.1.1; have hb0 := X.1.2.1; have hts := X.1.2.2.2.2
  intro M L H locs ls hw hW hl
  unfold wpX2_cameDown at hw
  refine lv_aload_n hx hb0 dX2_cameDown_0 rfl (lv_at hl 0 rfl) ?_
  refine z_getR (k2 := 35) X hW zC1 zR_6_0 (by decide) rfl zl_X2_12 dX2_cameDown_1 ?_
  refine z_VNi X (zOY isY_35) zC5 zc_X7_down zs_X7_down zn_X2_62 rfl ⟨rfl, rfl⟩ ⟨Nat.le_of_ble_eq_true rfl, Nat.le_of_ble_eq_true rfl⟩ (kX7_down l D cy ad X.2.2.2.1 isY_35) hW hw hl.1 rfl rfl (Nat.le_of_ble_eq_true rfl) dX2_cameDown_4 (fun r_4 M_4 L_4 H_4 locs_4 hw hW => ?_)
  refine lv_aload_n hx hb0 dX2_cameDown_7 rfl (lv_at hl 0 rfl) ?_
  refine z_getI X hW zC1 zF_6_4 (by decide) rfl zl_X2_28 dX2_cameDown_8 ?_
  refine lv_iconst (v := (-1 : Int32)) hx hb0 dX2_cameDown_11 (by decide) ?_
  refine lv_ixor hx hb0 dX2_cameDown_12 ?_
  refine lv_iand hx hb0 dX2_cameDown_13 ?_
  refine z_Si X zc_J6_bitCount_0f7a4 zt_J6_bitCount_0f7a4 zl_X2_65 rfl ⟨rfl, rfl⟩ ⟨Nat.le_of_ble_eq_true rfl, Nat.le_of_ble_eq_true rfl⟩ (kJ6_bitCount_0f7a4 l D cy ad X.2.2.2.1 (r_4 &&& ((M_4 6 4) ^^^ (-1 : Int32)))) hW hw hl.1 rfl rfl (Nat.le_of_ble_eq_true rfl) dX2_cameDown_14 (fun r_14 M_14 L_14 H_14 locs_14 hw hW => ?_)
  exact hret _ ls _ _ r_14 M_14 L_14 dX2_cameDown_17 rfl hw hW
theorem kX2_cameDown (l : Launch) (D : va_G) (cy : Nat → ClassId) (ad : Nat → Nat) (hi : zInj ad) : zMi l yX2_cameDown (.code yX2_cameDown cX2_cameDown 1 (some .int) :: zG) rmX2_cameDown D cy ad [.ref (ad 6)] (wpX2_cameDown) :=
  zMi_of (by decide +kernel) (Nat.le_of_ble_eq_true rfl) hi (fun X M L post _ hret ls hl hw hW => mX2_cameDown X post hret M L _ _ ls hw hW hl)
abbrev rmX2_dreamYear : Room := { frames := 4, cells := 0, slots := 0, locals := 101 }
set_option maxRecDepth 20000 in
set_option maxHeartbeats 4000000 in
theorem mX2_dreamYear_75 {p : Program} {l : Launch} {e : Env} {s : State} {m : MethodId} {args : Array Value} {below : List Frame} {meth : Method} {c : Code} {cells slots : Nat} {Q : State → Prop} {D : va_G} {cy : Nat → ClassId} {ad : Nat → Nat} {A : Nat → Prop} (X : zCx p rmX2_dreamYear s m args c cells slots cX2_dreamYear 8 RX2 D cy ad A) {b : Nat} (hb : isY b) (post : Mm → Ml → Prop) (hret : zRv p l e rmX2_dreamYear s m args below meth c cells slots Q cX2_dreamYear D cy ad A post) (K14 : Mm → Ml → Int32 → Int32 → Int32 → Prop) (hK14 : ∀ (M : Mm) (L : Ml) (v3 : Int32) (v4 : Int32) (v5 : Int32) (H : Heap) (locs : List Loc) (ls : Array Slot), K14 M L v3 v4 v5 → zWd D cy ad A s H locs M L → lv_has ls 8 [(0, .ref (ad 6)), (3, .int v3), (4, .int v4), (5, .int v5)] → W p l e rmX2_dreamYear s m args below meth c H locs cells slots Q (F0 m 14 ls [])) : ∀ (M : Mm) (L : Ml) (v3 : Int32) (v4 : Int32) (v5 : Int32) (H : Heap) (locs : List Loc) (ls : Array Slot), wpX2_dreamYear_75 b post K14 M L v3 v4 v5 → zWd D cy ad A s H locs M L → lv_has ls 8 [(0, .ref (ad 6)), (3, .int v3), (4, .int v4), (5, .int v5)] → W p l e rmX2_dreamYear s m args below meth c H locs cells slots Q (F0 m 75 ls []) := by
  have hx := X.1.1; have hb0 := X.1.2.1; have hts := X.1.2.2.2.2
  intro M L v3 v4 v5 H locs ls hw hW hl
  unfold wpX2_dreamYear_75 at hw
  obtain ⟨a_75, e_75⟩ : ∃ y : Int32, y = v5 + (1 : Int32) := ⟨_, rfl⟩
  replace hw := hw a_75 e_75
  refine lv_iinc (v := a_75) (lv' := [(5, .int a_75), (0, .ref (ad 6)), (3, .int v3), (4, .int v4)]) hx hb0 dX2_dreamYear_75 hl (k := 3) rfl (by rw [e_75]; rfl) (by decide) rfl (fun ls hl => ?_)
  refine lv_goto (tgt := 14) hx hb0 dX2_dreamYear_78 (by decide) ?_
  exact hK14 M L v3 v4 a_75 _ _ ls hw hW (lv_sub hl [1, 2, 3, 0] rfl)
set_option maxRecDepth 20000 in
set_option maxHeartbeats 4000000 in
theorem mX2_dreamYear_14 {p : Program} {l : Launch} {e : Env} {s : State} {m : MethodId} {args : Array Value} {below : List Frame} {meth : Method} {c : Code} {cells slots : Nat} {Q : State → Prop} {D : va_G} {cy : Nat → ClassId} {ad : Nat → Nat} {A : Nat → Prop} (X : zCx p rmX2_dreamYear s m args c cells slots cX2_dreamYear 8 RX2 D cy ad A) {b : Nat} (hb : isY b) (post : Mm → Ml → Prop) (hret : zRv p l e rmX2_dreamYear s m args below meth c cells slots Q cX2_dreamYear D cy ad A post) : ∀ (j9 : Nat) (M : Mm) (L : Ml) (v3 : Int32) (v4 : Int32) (v5 : Int32) (H : Heap) (locs : List Loc) (ls : Array Slot), wlX2_dreamYear_14 b post j9 (M, L, v3, v4, v5) → zWd D cy ad A s H locs M L → lv_has ls 8 [(0, .ref (ad 6)), (3, .int v3), (4, .int v4), (5, .int v5)] → W p l e rmX2_dreamYear s m args below meth c H locs cells slots Q (F0 m 14 ls []) := by
  have hx := X.1.1; have hb0 := X.1.2.1; have hts := X.1.2.2.2.2
  intro j9
  induction j9 with
  | zero => intro M L v3 v4 v5 H locs ls hw; exact hw.elim
  | succ j9 ih =>
    obtain ⟨K14, hKe⟩ : ∃ K : Mm → Ml → Int32 → Int32 → Int32 → Prop, K = fun M L v3 v4 v5 => wlX2_dreamYear_14 b post j9 (M, L, v3, v4, v5) := ⟨_, rfl⟩
    have hK14 : ∀ (M : Mm) (L : Ml) (v3 : Int32) (v4 : Int32) (v5 : Int32) (H : Heap) (locs : List Loc) (ls : Array Slot), K14 M L v3 v4 v5 → zWd D cy ad A s H locs M L → lv_has ls 8 [(0, .ref (ad 6)), (3, .int v3), (4, .int v4), (5, .int v5)] → W p l e rmX2_dreamYear s m args below meth c H locs cells slots Q (F0 m 14 ls []) := by intro M L v3 v4 v5 H locs ls hw; rw [hKe] at hw; exact ih M L v3 v4 v5 H locs ls hw
    intro M L v3 v4 v5 H locs ls hw hW hl
    have hw : wpX2_dreamYear_14 b post K14 M L v3 v4 v5 := by rw [hKe]; exact hw
    clear ih
    unfold wpX2_dreamYear_14 at hw
    refine lv_iload hx hb0 dX2_dreamYear_14 (lv_at hl 3 rfl) ?_
    refine lv_iload_n hx hb0 dX2_dreamYear_16 rfl (lv_at hl 1 rfl) ?_
    refine lv_icmp_ge (tgt := 81) hx hb0 dX2_dreamYear_17 (by decide) (fun c_17 => ?_) (fun c_17 => ?_)
    · replace hw := hw.1 c_17
      exact hret _ ls _ _ M L dX2_dreamYear_81 hw hW
    · replace hw := hw.2 c_17
      refine lv_bipush (v := (75 : Int32)) hx hb0 dX2_dreamYear_20 (by decide) ?_
      refine lv_iload hx hb0 dX2_dreamYear_22 (lv_at hl 2 rfl) ?_
      refine lv_imul hx hb0 dX2_dreamYear_24 ?_
      refine lv_bipush (v := (74 : Int32)) hx hb0 dX2_dreamYear_25 (by decide) ?_
      refine lv_iadd hx hb0 dX2_dreamYear_27 ?_
      refine lv_ldc (v := (65537 : Int32)) hx hb0 X.1.2.2.2.1 (hts _ zk_X2_71) dX2_dreamYear_28 ?_
      refine lv_irem hx hb0 dX2_dreamYear_30 (by decide) ?_
      refine lv_topi (fun a_31 e_31 => ?_)
      replace hw := hw a_31 e_31
      refine lv_istore (lv' := [(4, .int a_31), (0, .ref (ad 6)), (3, .int v3), (5, .int v5)]) hx hb0 dX2_dreamYear_31 hl (by decide) rfl (fun ls hl => ?_)
      refine lv_iload hx hb0 dX2_dreamYear_33 (lv_at hl 0 rfl) ?_
      refine lv_bipush (v := (8 : Int32)) hx hb0 dX2_dreamYear_35 (by decide) ?_
      refine lv_irem hx hb0 dX2_dreamYear_37 (by decide) ?_
      refine lv_topi (fun a_38 e_38 => ?_)
      replace hw := hw a_38 e_38
      refine lv_istore (lv' := [(6, .int a_38), (4, .int a_31), (0, .ref (ad 6)), (3, .int v3), (5, .int v5)]) hx hb0 dX2_dreamYear_38 hl (by decide) rfl (fun ls hl => ?_)
      refine lv_iload hx hb0 dX2_dreamYear_40 (lv_at hl 1 rfl) ?_
      refine lv_bipush (v := (8 : Int32)) hx hb0 dX2_dreamYear_42 (by decide) ?_
      refine lv_idiv hx hb0 dX2_dreamYear_44 (by decide) ?_
      refine lv_bipush (v := (6 : Int32)) hx hb0 dX2_dreamYear_45 (by decide) ?_
      refine lv_irem hx hb0 dX2_dreamYear_47 (by decide) ?_
      refine lv_topi (fun a_48 e_48 => ?_)
      replace hw := hw a_48 e_48
      refine lv_istore (lv' := [(7, .int a_48), (6, .int a_38), (4, .int a_31), (0, .ref (ad 6)), (3, .int v3), (5, .int v5)]) hx hb0 dX2_dreamYear_48 hl (by decide) rfl (fun ls hl => ?_)
      refine lv_aload_n hx hb0 dX2_dreamYear_50 rfl (lv_at hl 3 rfl) ?_
      refine z_getR (k2 := 35) X hW zC1 zR_6_0 (by decide) rfl zl_X2_12 dX2_dreamYear_51 ?_
      refine lv_iload hx hb0 dX2_dreamYear_54 (lv_at hl 1 rfl) ?_
      refine lv_iload hx hb0 dX2_dreamYear_56 (lv_at hl 0 rfl) ?_
      refine z_VNi X (zOY isY_35) zC5 zc_X7_whyNot zs_X7_whyNot zn_X2_47 rfl ⟨rfl, rfl⟩ ⟨Nat.le_of_ble_eq_true rfl, Nat.le_of_ble_eq_true rfl⟩ (kX7_whyNot l D cy ad X.2.2.2.1 isY_35 a_38 a_48) hW hw hl.1 rfl rfl (Nat.le_of_ble_eq_true rfl) dX2_dreamYear_58 (fun r_58 M_58 L_58 H_58 locs_58 hw hW => ?_)
      refine lv_if_ne (tgt := 75) hx hb0 dX2_dreamYear_61 (by decide) (fun c_61 => ?_) (fun c_61 => ?_)
      · replace hw := hw.1 c_61
        exact mX2_dreamYear_75 X hb post hret K14 hK14 M_58 L_58 v3 a_31 v5 _ _ ls hw hW (lv_sub hl [3, 4, 2, 5] rfl)
      · replace hw := hw.2 c_61
        refine lv_aload_n hx hb0 dX2_dreamYear_64 rfl (lv_at hl 3 rfl) ?_
        refine z_getR (k2 := 35) X hW zC1 zR_6_0 (by decide) rfl zl_X2_12 dX2_dreamYear_65 ?_
        refine lv_iload hx hb0 dX2_dreamYear_68 (lv_at hl 1 rfl) ?_
        refine lv_iload hx hb0 dX2_dreamYear_70 (lv_at hl 0 rfl) ?_
        refine z_VNv X (zOY isY_35) zC5 zc_X7_carryOut zs_X7_carryOut zn_X2_55 rfl ⟨rfl, rfl⟩ ⟨Nat.le_of_ble_eq_true rfl, Nat.le_of_ble_eq_true rfl⟩ (kX7_carryOut l D cy ad X.2.2.2.1 isY_35 a_38 a_48) hW hw hl.1 rfl rfl (Nat.le_of_ble_eq_true rfl) dX2_dreamYear_72 (fun M_72 L_72 H_72 locs_72 hw hW => ?_)
        exact mX2_dreamYear_75 X hb post hret K14 hK14 M_72 L_72 v3 a_31 v5 _ _ ls hw hW (lv_sub hl [3, 4, 2, 5] rfl)
set_option maxRecDepth 20000 in
set_option maxHeartbeats 4000000 in
theorem mX2_dreamYear {p : Program} {l : Launch} {e : Env} {s : State} {m : MethodId} {args : Array Value} {below : List Frame} {meth : Method} {c : Code} {cells slots : Nat} {Q : State → Prop} {D : va_G} {cy : Nat → ClassId} {ad : Nat → Nat} {A : Nat → Prop} (X : zCx p rmX2_dreamYear s m args c cells slots cX2_dreamYear 8 RX2 D cy ad A) {b : Nat} (hb : isY b) (post : Mm → Ml → Prop) (hret : zRv p l e rmX2_dreamYear s m args below meth c cells slots Q cX2_dreamYear D cy ad A post) : ∀ (M : Mm) (L : Ml) (x1 : Int32) (x2 : Int32) (H : Heap) (locs : List Loc) (ls : Array Slot), wpX2_dreamYear b x1 x2 M L post → zWd D cy ad A s H locs M L → lv_has ls 8 [(0, .ref (ad 6)), (1, .ref (ad b)), (2, .int x1), (3, .int x2)] → W p l e rmX2_dreamYear s m args below meth c H locs cells slots Q (F0 m 0 ls []) := by
  have hx := X.1.1; have hb0 := X.1.2.1; have hts := X.1.2.2.2.2
  intro M L x1 x2 H locs ls hw hW hl
  unfold wpX2_dreamYear at hw
  refine lv_aload_n hx hb0 dX2_dreamYear_0 rfl (lv_at hl 0 rfl) ?_
  refine z_getR (k2 := 35) X hW zC1 zR_6_0 (by decide) rfl zl_X2_12 dX2_dreamYear_1 ?_
  refine lv_aload_n hx hb0 dX2_dreamYear_4 rfl (lv_at hl 1 rfl) ?_
  refine z_VNv X (zOY isY_35) zC5 zc_X7_copy zs_X7_copy zn_X2_59 rfl ⟨rfl, rfl⟩ ⟨Nat.le_of_ble_eq_true rfl, Nat.le_of_ble_eq_true rfl⟩ (kX7_copy l D cy ad X.2.2.2.1 isY_35 hb) hW hw hl.1 rfl rfl (Nat.le_of_ble_eq_true rfl) dX2_dreamYear_5 (fun M_5 L_5 H_5 locs_5 hw hW => ?_)
  refine lv_iload_n hx hb0 dX2_dreamYear_8 rfl (lv_at hl 2 rfl) ?_
  refine lv_istore (lv' := [(4, .int x1), (0, .ref (ad 6)), (1, .ref (ad b)), (2, .int x1), (3, .int x2)]) hx hb0 dX2_dreamYear_9 hl (by decide) rfl (fun ls hl => ?_)
  refine lv_iconst (v := (0 : Int32)) hx hb0 dX2_dreamYear_11 (by decide) ?_
  refine lv_istore (lv' := [(5, .int (0 : Int32)), (4, .int x1), (0, .ref (ad 6)), (1, .ref (ad b)), (2, .int x1), (3, .int x2)]) hx hb0 dX2_dreamYear_12 hl (by decide) rfl (fun ls hl => ?_)
  obtain ⟨n_14, hw⟩ := hw
  exact mX2_dreamYear_14 X hb post hret n_14 M_5 L_5 x2 x1 (0 : Int32) _ _ ls hw hW (lv_sub hl [2, 5, 1, 0] rfl)
theorem kX2_dreamYear (l : Launch) (D : va_G) (cy : Nat → ClassId) (ad : Nat → Nat) (hi : zInj ad) {b : Nat} (hb : isY b) (x1 : Int32) (x2 : Int32) : zMv l yX2_dreamYear (.code yX2_dreamYear cX2_dreamYear 8 none :: zG) rmX2_dreamYear D cy ad [.ref (ad 6), .ref (ad b), .int x1, .int x2] (wpX2_dreamYear b x1 x2) :=
  zMv_of (by decide +kernel) (Nat.le_of_ble_eq_true rfl) hi (fun X M L post _ hret ls hl hw hW => mX2_dreamYear X hb post hret M L x1 x2 _ _ ls hw hW hl)
abbrev rmX3_readAloud : Room := { frames := 1, cells := 0, slots := 0, locals := 21 }
set_option maxRecDepth 20000 in
set_option maxHeartbeats 4000000 in
theorem mX3_readAloud_45 {p : Program} {l : Launch} {e : Env} {s : State} {m : MethodId} {args : Array Value} {below : List Frame} {meth : Method} {c : Code} {cells slots : Nat} {Q : State → Prop} {D : va_G} {cy : Nat → ClassId} {ad : Nat → Nat} {A : Nat → Prop} (X : zCx p rmX3_readAloud s m args c cells slots cX3_readAloud 4 RX3 D cy ad A) (post : Int32 → Mm → Ml → Prop) (hret : zRi p l e rmX3_readAloud s m args below meth c cells slots Q cX3_readAloud D cy ad A .int post) (K6 : Mm → Ml → Int32 → Int32 → Int32 → Int32 → Prop) (hK6 : ∀ (M : Mm) (L : Ml) (v0 : Int32) (v1 : Int32) (v2 : Int32) (v3 : Int32) (H : Heap) (locs : List Loc) (ls : Array Slot), K6 M L v0 v1 v2 v3 → zWd D cy ad A s H locs M L → lv_has ls 4 [(0, .int v0), (1, .int v1), (2, .int v2), (3, .int v3)] → W p l e rmX3_readAloud s m args below meth c H locs cells slots Q (F0 m 6 ls [])) : ∀ (M : Mm) (L : Ml) (v0 : Int32) (v1 : Int32) (v2 : Int32) (v3 : Int32) (H : Heap) (locs : List Loc) (ls : Array Slot), wpX3_readAloud_45 post K6 M L v0 v1 v2 v3 → zWd D cy ad A s H locs M L → lv_has ls 4 [(0, .int v0), (1, .int v1), (2, .int v2), (3, .int v3)] → W p l e rmX3_readAloud s m args below meth c H locs cells slots Q (F0 m 45 ls []) := by
  have hx := X.1.1; have hb0 := X.1.2.1; have hts := X.1.2.2.2.2
  intro M L v0 v1 v2 v3 H locs ls hw hW hl
  unfold wpX3_readAloud_45 at hw
  obtain ⟨a_45, e_45⟩ : ∃ y : Int32, y = v3 + (1 : Int32) := ⟨_, rfl⟩
  replace hw := hw a_45 e_45
  refine lv_iinc (v := a_45) (lv' := [(3, .int a_45), (0, .int v0), (1, .int v1), (2, .int v2)]) hx hb0 dX3_readAloud_45 hl (k := 3) rfl (by rw [e_45]; rfl) (by decide) rfl (fun ls hl => ?_)
  refine lv_goto (tgt := 6) hx hb0 dX3_readAloud_48 (by decide) ?_
  exact hK6 M L v0 v1 v2 a_45 _ _ ls hw hW (lv_sub hl [1, 2, 3, 0] rfl)
set_option maxRecDepth 20000 in
set_option maxHeartbeats 4000000 in
theorem mX3_readAloud_36 {p : Program} {l : Launch} {e : Env} {s : State} {m : MethodId} {args : Array Value} {below : List Frame} {meth : Method} {c : Code} {cells slots : Nat} {Q : State → Prop} {D : va_G} {cy : Nat → ClassId} {ad : Nat → Nat} {A : Nat → Prop} (X : zCx p rmX3_readAloud s m args c cells slots cX3_readAloud 4 RX3 D cy ad A) (post : Int32 → Mm → Ml → Prop) (hret : zRi p l e rmX3_readAloud s m args below meth c cells slots Q cX3_readAloud D cy ad A .int post) (K6 : Mm → Ml → Int32 → Int32 → Int32 → Int32 → Prop) (hK6 : ∀ (M : Mm) (L : Ml) (v0 : Int32) (v1 : Int32) (v2 : Int32) (v3 : Int32) (H : Heap) (locs : List Loc) (ls : Array Slot), K6 M L v0 v1 v2 v3 → zWd D cy ad A s H locs M L → lv_has ls 4 [(0, .int v0), (1, .int v1), (2, .int v2), (3, .int v3)] → W p l e rmX3_readAloud s m args below meth c H locs cells slots Q (F0 m 6 ls [])) : ∀ (M : Mm) (L : Ml) (v0 : Int32) (v1 : Int32) (v2 : Int32) (v3 : Int32) (H : Heap) (locs : List Loc) (ls : Array Slot), wpX3_readAloud_36 post K6 M L v0 v1 v2 v3 → zWd D cy ad A s H locs M L → lv_has ls 4 [(0, .int v0), (1, .int v1), (2, .int v2), (3, .int v3)] → W p l e rmX3_readAloud s m args below meth c H locs cells slots Q (F0 m 36 ls []) := by
  have hx := X.1.1; have hb0 := X.1.2.1; have hts := X.1.2.2.2.2
  intro M L v0 v1 v2 v3 H locs ls hw hW hl
  unfold wpX3_readAloud_36 at hw
  refine lv_iload_n hx hb0 dX3_readAloud_36 rfl (lv_at hl 1 rfl) ?_
  refine lv_bipush (v := (10 : Int32)) hx hb0 dX3_readAloud_37 (by decide) ?_
  refine lv_imul hx hb0 dX3_readAloud_39 ?_
  refine lv_iload_n hx hb0 dX3_readAloud_40 rfl (lv_at hl 2 rfl) ?_
  refine lv_iadd hx hb0 dX3_readAloud_41 ?_
  refine lv_topi (fun a_42 e_42 => ?_)
  replace hw := hw a_42 e_42
  refine lv_istore_n (lv' := [(1, .int a_42), (0, .int v0), (2, .int v2), (3, .int v3)]) hx hb0 dX3_readAloud_42 rfl hl (by decide) rfl (fun ls hl => ?_)
  refine lv_iconst (v := (0 : Int32)) hx hb0 dX3_readAloud_43 (by decide) ?_
  refine lv_istore_n (lv' := [(2, .int (0 : Int32)), (1, .int a_42), (0, .int v0), (3, .int v3)]) hx hb0 dX3_readAloud_44 rfl hl (by decide) rfl (fun ls hl => ?_)
  exact mX3_readAloud_45 X post hret K6 hK6 M L v0 a_42 (0 : Int32) v3 _ _ ls hw hW (lv_sub hl [2, 1, 0, 3] rfl)
set_option maxRecDepth 20000 in
set_option maxHeartbeats 4000000 in
theorem mX3_readAloud_6 {p : Program} {l : Launch} {e : Env} {s : State} {m : MethodId} {args : Array Value} {below : List Frame} {meth : Method} {c : Code} {cells slots : Nat} {Q : State → Prop} {D : va_G} {cy : Nat → ClassId} {ad : Nat → Nat} {A : Nat → Prop} (X : zCx p rmX3_readAloud s m args c cells slots cX3_readAloud 4 RX3 D cy ad A) (post : Int32 → Mm → Ml → Prop) (hret : zRi p l e rmX3_readAloud s m args below meth c cells slots Q cX3_readAloud D cy ad A .int post) : ∀ (j9 : Nat) (M : Mm) (L : Ml) (v0 : Int32) (v1 : Int32) (v2 : Int32) (v3 : Int32) (H : Heap) (locs : List Loc) (ls : Array Slot), wlX3_readAloud_6 post j9 (M, L, v0, v1, v2, v3) → zWd D cy ad A s H locs M L → lv_has ls 4 [(0, .int v0), (1, .int v1), (2, .int v2), (3, .int v3)] → W p l e rmX3_readAloud s m args below meth c H locs cells slots Q (F0 m 6 ls []) := by
  have hx := X.1.1; have hb0 := X.1.2.1; have hts := X.1.2.2.2.2
  intro j9
  induction j9 with
  | zero => intro M L v0 v1 v2 v3 H locs ls hw; exact hw.elim
  | succ j9 ih =>
    obtain ⟨K6, hKe⟩ : ∃ K : Mm → Ml → Int32 → Int32 → Int32 → Int32 → Prop, K = fun M L v0 v1 v2 v3 => wlX3_readAloud_6 post j9 (M, L, v0, v1, v2, v3) := ⟨_, rfl⟩
    have hK6 : ∀ (M : Mm) (L : Ml) (v0 : Int32) (v1 : Int32) (v2 : Int32) (v3 : Int32) (H : Heap) (locs : List Loc) (ls : Array Slot), K6 M L v0 v1 v2 v3 → zWd D cy ad A s H locs M L → lv_has ls 4 [(0, .int v0), (1, .int v1), (2, .int v2), (3, .int v3)] → W p l e rmX3_readAloud s m args below meth c H locs cells slots Q (F0 m 6 ls []) := by intro M L v0 v1 v2 v3 H locs ls hw; rw [hKe] at hw; exact ih M L v0 v1 v2 v3 H locs ls hw
    intro M L v0 v1 v2 v3 H locs ls hw hW hl
    have hw : wpX3_readAloud_6 post K6 M L v0 v1 v2 v3 := by rw [hKe]; exact hw
    clear ih
    unfold wpX3_readAloud_6 at hw
    refine lv_iload_n hx hb0 dX3_readAloud_6 rfl (lv_at hl 3 rfl) ?_
    refine lv_bipush (v := (8 : Int32)) hx hb0 dX3_readAloud_7 (by decide) ?_
    refine lv_icmp_ge (tgt := 51) hx hb0 dX3_readAloud_9 (by decide) (fun c_9 => ?_) (fun c_9 => ?_)
    · replace hw := hw.1 c_9
      refine lv_iload_n hx hb0 dX3_readAloud_51 rfl (lv_at hl 1 rfl) ?_
      exact hret _ ls _ _ v1 M L dX3_readAloud_52 rfl hw hW
    · replace hw := hw.2 c_9
      obtain ⟨a_12, e_12⟩ : ∃ y : Int32, y = v2 + (1 : Int32) := ⟨_, rfl⟩
      replace hw := hw a_12 e_12
      refine lv_iinc (v := a_12) (lv' := [(2, .int a_12), (0, .int v0), (1, .int v1), (3, .int v3)]) hx hb0 dX3_readAloud_12 hl (k := 2) rfl (by rw [e_12]; rfl) (by decide) rfl (fun ls hl => ?_)
      refine lv_iload_n hx hb0 dX3_readAloud_15 rfl (lv_at hl 3 rfl) ?_
      refine lv_bipush (v := (7 : Int32)) hx hb0 dX3_readAloud_16 (by decide) ?_
      refine lv_icmp_eq (tgt := 36) hx hb0 dX3_readAloud_18 (by decide) (fun c_18 => ?_) (fun c_18 => ?_)
      · replace hw := hw.1 c_18
        exact mX3_readAloud_36 X post hret K6 hK6 M L v0 v1 a_12 v3 _ _ ls hw hW (lv_sub hl [1, 2, 0, 3] rfl)
      · replace hw := hw.2 c_18
        refine lv_iload_n hx hb0 dX3_readAloud_21 rfl (lv_at hl 1 rfl) ?_
        refine lv_iload_n hx hb0 dX3_readAloud_22 rfl (lv_at hl 3 rfl) ?_
        refine z_SNi X zc_X8_bit zt_X8_bit zn_X3_15 rfl ⟨rfl, rfl⟩ ⟨Nat.le_of_ble_eq_true rfl, Nat.le_of_ble_eq_true rfl⟩ (kX8_bit l D cy ad X.2.2.2.1 v0 v3) hW hw hl.1 rfl rfl (Nat.le_of_ble_eq_true rfl) dX3_readAloud_23 (fun r_23 M_23 L_23 H_23 locs_23 hw hW => ?_)
        refine lv_iload_n hx hb0 dX3_readAloud_26 rfl (lv_at hl 1 rfl) ?_
        refine lv_iload_n hx hb0 dX3_readAloud_27 rfl (lv_at hl 3 rfl) ?_
        refine lv_iconst (v := (1 : Int32)) hx hb0 dX3_readAloud_28 (by decide) ?_
        refine lv_iadd hx hb0 dX3_readAloud_29 ?_
        refine z_SNi X zc_X8_bit zt_X8_bit zn_X3_15 rfl ⟨rfl, rfl⟩ ⟨Nat.le_of_ble_eq_true rfl, Nat.le_of_ble_eq_true rfl⟩ (kX8_bit l D cy ad X.2.2.2.1 v0 (v3 + (1 : Int32))) hW hw hl.1 rfl rfl (Nat.le_of_ble_eq_true rfl) dX3_readAloud_30 (fun r_30 M_30 L_30 H_30 locs_30 hw hW => ?_)
        refine lv_icmp_eq (tgt := 45) hx hb0 dX3_readAloud_33 (by decide) (fun c_33 => ?_) (fun c_33 => ?_)
        · replace hw := hw.1 c_33
          exact mX3_readAloud_45 X post hret K6 hK6 M_30 L_30 v0 v1 a_12 v3 _ _ ls hw hW (lv_sub hl [1, 2, 0, 3] rfl)
        · replace hw := hw.2 c_33
          exact mX3_readAloud_36 X post hret K6 hK6 M_30 L_30 v0 v1 a_12 v3 _ _ ls hw hW (lv_sub hl [1, 2, 0, 3] rfl)
set_option maxRecDepth 20000 in
set_option maxHeartbeats 4000000 in
theorem mX3_readAloud {p : Program} {l : Launch} {e : Env} {s : State} {m : MethodId} {args : Array Value} {below : List Frame} {meth : Method} {c : Code} {cells slots : Nat} {Q : State → Prop} {D : va_G} {cy : Nat → ClassId} {ad : Nat → Nat} {A : Nat → Prop} (X : zCx p rmX3_readAloud s m args c cells slots cX3_readAloud 4 RX3 D cy ad A) (post : Int32 → Mm → Ml → Prop) (hret : zRi p l e rmX3_readAloud s m args below meth c cells slots Q cX3_readAloud D cy ad A .int post) : ∀ (M : Mm) (L : Ml) (x1 : Int32) (H : Heap) (locs : List Loc) (ls : Array Slot), wpX3_readAloud x1 M L post → zWd D cy ad A s H locs M L → lv_has ls 4 [(0, .int x1)] → W p l e rmX3_readAloud s m args below meth c H locs cells slots Q (F0 m 0 ls []) := by
  have hx := X.1.1; have hb0 := X.1.2.1; have hts := X.1.2.2.2.2
  intro M L x1 H locs ls hw hW hl
  unfold wpX3_readAloud at hw
  refine lv_iconst (v := (0 : Int32)) hx hb0 dX3_readAloud_0 (by decide) ?_
  refine lv_istore_n (lv' := [(1, .int (0 : Int32)), (0, .int x1)]) hx hb0 dX3_readAloud_1 rfl hl (by decide) rfl (fun ls hl => ?_)
  refine lv_iconst (v := (0 : Int32)) hx hb0 dX3_readAloud_2 (by decide) ?_
  refine lv_istore_n (lv' := [(2, .int (0 : Int32)), (1, .int (0 : Int32)), (0, .int x1)]) hx hb0 dX3_readAloud_3 rfl hl (by decide) rfl (fun ls hl => ?_)
  refine lv_iconst (v := (0 : Int32)) hx hb0 dX3_readAloud_4 (by decide) ?_
  refine lv_istore_n (lv' := [(3, .int (0 : Int32)), (2, .int (0 : Int32)), (1, .int (0 : Int32)), (0, .int x1)]) hx hb0 dX3_readAloud_5 rfl hl (by decide) rfl (fun ls hl => ?_)
  obtain ⟨n_6, hw⟩ := hw
  exact mX3_readAloud_6 X post hret n_6 M L x1 (0 : Int32) (0 : Int32) (0 : Int32) _ _ ls hw hW (lv_sub hl [3, 2, 1, 0] rfl)
theorem kX3_readAloud (l : Launch) (D : va_G) (cy : Nat → ClassId) (ad : Nat → Nat) (hi : zInj ad) (x1 : Int32) : zMi l yX3_readAloud (.code yX3_readAloud cX3_readAloud 4 (some .int) :: zG) rmX3_readAloud D cy ad [.int x1] (wpX3_readAloud x1) :=
  zMi_of (by decide +kernel) (Nat.le_of_ble_eq_true rfl) hi (fun X M L post _ hret ls hl hw hW => mX3_readAloud X post hret M L x1 _ _ ls hw hW hl)
def rmX3_rows (d : Nat) : Room := { frames := d + 3, cells := 0, slots := 0, locals := (d + 1) * 24 + 44 }
set_option maxRecDepth 20000 in
set_option maxHeartbeats 4000000 in
theorem mX3_rows_14 {p : Program} {l : Launch} {e : Env} {s : State} {m : MethodId} {args : Array Value} {below : List Frame} {meth : Method} {c : Code} {cells slots : Nat} {Q : State → Prop} {D : va_G} {cy : Nat → ClassId} {ad : Nat → Nat} {A : Nat → Prop} {d : Nat} {G : Int32 → Int32 → Int32 → Int32 → Int32 → Mm → Ml → (Int32 → Mm → Ml → Prop) → Prop} (X : zCx p (rmX3_rows (d + 1)) s m args c cells slots cX3_rows 5 RX3 D cy ad A) (hG : ∀ x1 x2 x3 x4 x5, zMi l yX3_rows (.code yX3_rows cX3_rows 5 (some .int) :: zG) (rmX3_rows d) D cy ad [.int x1, .int x2, .int x3, .int x4, .int x5] (G x1 x2 x3 x4 x5)) (post : Int32 → Mm → Ml → Prop) (hret : zRi p l e (rmX3_rows (d + 1)) s m args below meth c cells slots Q cX3_rows D cy ad A .int post) : ∀ (M : Mm) (L : Ml) (s0 : Int32) (H : Heap) (locs : List Loc) (ls : Array Slot), wpX3_rows_14 G post M L s0 → zWd D cy ad A s H locs M L → lv_has ls 5 [] → W p l e (rmX3_rows (d + 1)) s m args below meth c H locs cells slots Q (F0 m 14 ls [.int s0]) := by
  have hx := X.1.1; have hb0 := X.1.2.1; have hts := X.1.2.2.2.2
  intro M L s0 H locs ls hw hW hl
  unfold wpX3_rows_14 at hw
  exact hret _ ls _ _ s0 M L dX3_rows_14 rfl hw hW
set_option maxRecDepth 20000 in
set_option maxHeartbeats 4000000 in
theorem mX3_rows {p : Program} {l : Launch} {e : Env} {s : State} {m : MethodId} {args : Array Value} {below : List Frame} {meth : Method} {c : Code} {cells slots : Nat} {Q : State → Prop} {D : va_G} {cy : Nat → ClassId} {ad : Nat → Nat} {A : Nat → Prop} {d : Nat} {G : Int32 → Int32 → Int32 → Int32 → Int32 → Mm → Ml → (Int32 → Mm → Ml → Prop) → Prop} (X : zCx p (rmX3_rows (d + 1)) s m args c cells slots cX3_rows 5 RX3 D cy ad A) (hG : ∀ x1 x2 x3 x4 x5, zMi l yX3_rows (.code yX3_rows cX3_rows 5 (some .int) :: zG) (rmX3_rows d) D cy ad [.int x1, .int x2, .int x3, .int x4, .int x5] (G x1 x2 x3 x4 x5)) (post : Int32 → Mm → Ml → Prop) (hret : zRi p l e (rmX3_rows (d + 1)) s m args below meth c cells slots Q cX3_rows D cy ad A .int post) : ∀ (M : Mm) (L : Ml) (x1 : Int32) (x2 : Int32) (x3 : Int32) (x4 : Int32) (x5 : Int32) (H : Heap) (locs : List Loc) (ls : Array Slot), woX3_rows G x1 x2 x3 x4 x5 M L post → zWd D cy ad A s H locs M L → lv_has ls 5 [(0, .int x1), (1, .int x2), (2, .int x3), (3, .int x4), (4, .int x5)] → W p l e (rmX3_rows (d + 1)) s m args below meth c H locs cells slots Q (F0 m 0 ls []) := by
  have hx := X.1.1; have hb0 := X.1.2.1; have hts := X.1.2.2.2.2
  intro M L x1 x2 x3 x4 x5 H locs ls hw hW hl
  unfold woX3_rows at hw
  refine lv_iload_n hx hb0 dX3_rows_0 rfl (lv_at hl 2 rfl) ?_
  refine lv_if_gt (tgt := 15) hx hb0 dX3_rows_1 (by decide) (fun c_1 => ?_) (fun c_1 => ?_)
  · replace hw := hw.1 c_1
    refine lv_iload_n hx hb0 dX3_rows_15 rfl (lv_at hl 0 rfl) ?_
    refine lv_iload_n hx hb0 dX3_rows_16 rfl (lv_at hl 3 rfl) ?_
    refine z_Si X zc_X3_grown zt_X3_grown zl_X3_18 rfl ⟨rfl, rfl⟩ ⟨by simp only [rmX3_rows]; omega, by simp only [rmX3_rows]; omega⟩ (kX3_grown l D cy ad X.2.2.2.1 x1 x4) hW hw hl.1 rfl rfl (Nat.le_of_ble_eq_true rfl) dX3_rows_17 (fun r_17 M_17 L_17 H_17 locs_17 hw hW => ?_)
    refine lv_iload_n hx hb0 dX3_rows_20 rfl (lv_at hl 1 rfl) ?_
    refine lv_iload_n hx hb0 dX3_rows_21 rfl (lv_at hl 2 rfl) ?_
    refine lv_iconst (v := (1 : Int32)) hx hb0 dX3_rows_22 (by decide) ?_
    refine lv_isub hx hb0 dX3_rows_23 ?_
    refine lv_iload_n hx hb0 dX3_rows_24 rfl (lv_at hl 3 rfl) ?_
    refine lv_iload hx hb0 dX3_rows_25 (lv_at hl 4 rfl) ?_
    refine z_Si X zc_X3_rows zt_X3_rows zl_X3_21 rfl ⟨rfl, rfl⟩ ⟨by show _ ≤ _; simp only [rmX3_rows]; omega, by show _ ≤ _; simp only [rmX3_rows]; omega⟩ (hG r_17 x2 (x3 - (1 : Int32)) x4 x5) hW hw hl.1 rfl rfl (Nat.le_of_ble_eq_true rfl) dX3_rows_27 (fun r_27 M_27 L_27 H_27 locs_27 hw hW => ?_)
    refine lv_iload_n hx hb0 dX3_rows_30 rfl (lv_at hl 0 rfl) ?_
    refine lv_iload hx hb0 dX3_rows_31 (lv_at hl 4 rfl) ?_
    refine z_Si X zc_X3_grown zt_X3_grown zl_X3_18 rfl ⟨rfl, rfl⟩ ⟨by simp only [rmX3_rows]; omega, by simp only [rmX3_rows]; omega⟩ (kX3_grown l D cy ad X.2.2.2.1 x1 x5) hW hw hl.1 rfl rfl (Nat.le_of_ble_eq_true rfl) dX3_rows_33 (fun r_33 M_33 L_33 H_33 locs_33 hw hW => ?_)
    refine lv_iload_n hx hb0 dX3_rows_36 rfl (lv_at hl 1 rfl) ?_
    refine lv_iload_n hx hb0 dX3_rows_37 rfl (lv_at hl 2 rfl) ?_
    refine lv_iconst (v := (1 : Int32)) hx hb0 dX3_rows_38 (by decide) ?_
    refine lv_isub hx hb0 dX3_rows_39 ?_
    refine lv_iload_n hx hb0 dX3_rows_40 rfl (lv_at hl 3 rfl) ?_
    refine lv_iload hx hb0 dX3_rows_41 (lv_at hl 4 rfl) ?_
    refine z_Si X zc_X3_rows zt_X3_rows zl_X3_21 rfl ⟨rfl, rfl⟩ ⟨by show _ ≤ _; simp only [rmX3_rows]; omega, by show _ ≤ _; simp only [rmX3_rows]; omega⟩ (hG r_33 x2 (x3 - (1 : Int32)) x4 x5) hW hw hl.1 rfl rfl (Nat.le_of_ble_eq_true rfl) dX3_rows_43 (fun r_43 M_43 L_43 H_43 locs_43 hw hW => ?_)
    refine lv_iadd hx hb0 dX3_rows_46 ?_
    exact hret _ ls _ _ (r_27 + r_43) M_43 L_43 dX3_rows_47 rfl hw hW
  · replace hw := hw.2 c_1
    refine lv_iload_n hx hb0 dX3_rows_4 rfl (lv_at hl 0 rfl) ?_
    refine lv_iload_n hx hb0 dX3_rows_5 rfl (lv_at hl 1 rfl) ?_
    refine lv_icmp_ne (tgt := 13) hx hb0 dX3_rows_6 (by decide) (fun c_6 => ?_) (fun c_6 => ?_)
    · replace hw := hw.1 c_6
      refine lv_iconst (v := (0 : Int32)) hx hb0 dX3_rows_13 (by decide) ?_
      exact mX3_rows_14 X hG post hret M L (0 : Int32) _ _ ls hw hW (lv_sub hl [] rfl)
    · replace hw := hw.2 c_6
      refine lv_iconst (v := (1 : Int32)) hx hb0 dX3_rows_9 (by decide) ?_
      refine lv_goto (tgt := 14) hx hb0 dX3_rows_10 (by decide) ?_
      exact mX3_rows_14 X hG post hret M L (1 : Int32) _ _ ls hw hW (lv_sub hl [] rfl)
theorem kX3_rows (l : Launch) (D : va_G) (cy : Nat → ClassId) (ad : Nat → Nat) (hi : zInj ad) : ∀ (d : Nat) (x1 : Int32) (x2 : Int32) (x3 : Int32) (x4 : Int32) (x5 : Int32), zMi l yX3_rows (.code yX3_rows cX3_rows 5 (some .int) :: zG) (rmX3_rows d) D cy ad [.int x1, .int x2, .int x3, .int x4, .int x5] (wpX3_rows d x1 x2 x3 x4 x5) := by
  intro d
  induction d with
  | zero => exact fun x1 x2 x3 x4 x5 => zMi_of (by decide +kernel) (Nat.le_of_ble_eq_true rfl) hi (fun X M L post _ hret ls hl hw hW => hw.elim)
  | succ d ih => exact fun x1 x2 x3 x4 x5 => zMi_of (by decide +kernel) (Nat.le_of_ble_eq_true rfl) hi (fun X M L post _ hret ls hl hw hW => mX3_rows X ih post hret M L x1 x2 x3 x4 x5 _ _ ls hw hW hl)
abbrev rmX3_firstRow : Room := { frames := 15, cells := 0, slots := 0, locals := 356 }
set_option maxRecDepth 20000 in
set_option maxHeartbeats 4000000 in
theorem mX3_firstRow_98 {p : Program} {l : Launch} {e : Env} {s : State} {m : MethodId} {args : Array Value} {below : List Frame} {meth : Method} {c : Code} {cells slots : Nat} {Q : State → Prop} {D : va_G} {cy : Nat → ClassId} {ad : Nat → Nat} {A : Nat → Prop} (X : zCx p rmX3_firstRow s m args c cells slots cX3_firstRow 11 RX3 D cy ad A) (post : Int64 → Mm → Ml → Prop) (hret : zRl p l e rmX3_firstRow s m args below meth c cells slots Q cX3_firstRow D cy ad A post) (K27 : Mm → Ml → Int32 → Int32 → Int32 → Int64 → Int32 → Int32 → Prop) (hK27 : ∀ (M : Mm) (L : Ml) (v1 : Int32) (v3 : Int32) (v4 : Int32) (v5 : Int64) (v7 : Int32) (v8 : Int32) (H : Heap) (locs : List Loc) (ls : Array Slot), K27 M L v1 v3 v4 v5 v7 v8 → zWd D cy ad A s H locs M L → lv_has ls 11 [(1, .int v1), (3, .int v3), (4, .int v4), (5, .long v5), (7, .int v7), (8, .int v8)] → W p l e rmX3_firstRow s m args below meth c H locs cells slots Q (F0 m 27 ls [])) : ∀ (M : Mm) (L : Ml) (v1 : Int32) (v3 : Int32) (v4 : Int32) (v5 : Int64) (v8 : Int32) (s0 : Int32) (H : Heap) (locs : List Loc) (ls : Array Slot), wpX3_firstRow_98 post K27 M L v1 v3 v4 v5 v8 s0 → zWd D cy ad A s H locs M L → lv_has ls 11 [(1, .int v1), (3, .int v3), (4, .int v4), (5, .long v5), (8, .int v8)] → W p l e rmX3_firstRow s m args below meth c H locs cells slots Q (F0 m 98 ls [.int s0]) := by
  have hx := X.1.1; have hb0 := X.1.2.1; have hts := X.1.2.2.2.2
  intro M L v1 v3 v4 v5 v8 s0 H locs ls hw hW hl
  unfold wpX3_firstRow_98 at hw
  refine lv_istore (lv' := [(7, .int s0), (1, .int v1), (3, .int v3), (4, .int v4), (5, .long v5), (8, .int v8)]) hx hb0 dX3_firstRow_98 hl (by decide) rfl (fun ls hl => ?_)
  obtain ⟨a_100, e_100⟩ : ∃ y : Int32, y = v8 + (-1 : Int32) := ⟨_, rfl⟩
  replace hw := hw a_100 e_100
  refine lv_iinc (v := a_100) (lv' := [(8, .int a_100), (7, .int s0), (1, .int v1), (3, .int v3), (4, .int v4), (5, .long v5)]) hx hb0 dX3_firstRow_100 hl (k := 5) rfl (by rw [e_100]; rfl) (by decide) rfl (fun ls hl => ?_)
  refine lv_goto (tgt := 27) hx hb0 dX3_firstRow_103 (by decide) ?_
  exact hK27 M L v1 v3 v4 v5 s0 a_100 _ _ ls hw hW (lv_sub hl [2, 3, 4, 5, 1, 0] rfl)
set_option maxRecDepth 20000 in
set_option maxHeartbeats 4000000 in
theorem mX3_firstRow_77 {p : Program} {l : Launch} {e : Env} {s : State} {m : MethodId} {args : Array Value} {below : List Frame} {meth : Method} {c : Code} {cells slots : Nat} {Q : State → Prop} {D : va_G} {cy : Nat → ClassId} {ad : Nat → Nat} {A : Nat → Prop} (X : zCx p rmX3_firstRow s m args c cells slots cX3_firstRow 11 RX3 D cy ad A) (post : Int64 → Mm → Ml → Prop) (hret : zRl p l e rmX3_firstRow s m args below meth c cells slots Q cX3_firstRow D cy ad A post) (K27 : Mm → Ml → Int32 → Int32 → Int32 → Int64 → Int32 → Int32 → Prop) (hK27 : ∀ (M : Mm) (L : Ml) (v1 : Int32) (v3 : Int32) (v4 : Int32) (v5 : Int64) (v7 : Int32) (v8 : Int32) (H : Heap) (locs : List Loc) (ls : Array Slot), K27 M L v1 v3 v4 v5 v7 v8 → zWd D cy ad A s H locs M L → lv_has ls 11 [(1, .int v1), (3, .int v3), (4, .int v4), (5, .long v5), (7, .int v7), (8, .int v8)] → W p l e rmX3_firstRow s m args below meth c H locs cells slots Q (F0 m 27 ls [])) : ∀ (M : Mm) (L : Ml) (v1 : Int32) (v3 : Int32) (v4 : Int32) (v7 : Int32) (v8 : Int32) (v9 : Int32) (v10 : Int32) (s0 : Int32) (s1 : Int64) (H : Heap) (locs : List Loc) (ls : Array Slot), wpX3_firstRow_77 post K27 M L v1 v3 v4 v7 v8 v9 v10 s0 s1 → zWd D cy ad A s H locs M L → lv_has ls 11 [(1, .int v1), (3, .int v3), (4, .int v4), (7, .int v7), (8, .int v8), (9, .int v9), (10, .int v10)] → W p l e rmX3_firstRow s m args below meth c H locs cells slots Q (F0 m 77 ls [.int s0, .long s1]) := by
  have hx := X.1.1; have hb0 := X.1.2.1; have hts := X.1.2.2.2.2
  intro M L v1 v3 v4 v7 v8 v9 v10 s0 s1 H locs ls hw hW hl
  unfold wpX3_firstRow_77 at hw
  refine lv_i2l hx hb0 dX3_firstRow_77 rfl ?_
  refine lv_ladd hx hb0 dX3_firstRow_78 ?_
  refine lv_topl (fun a_79 e_79 => ?_)
  replace hw := hw a_79 e_79
  refine lv_lstore (lv' := [(5, .long a_79), (1, .int v1), (3, .int v3), (4, .int v4), (7, .int v7), (8, .int v8), (9, .int v9), (10, .int v10)]) hx hb0 dX3_firstRow_79 hl (by decide) rfl (fun ls hl => ?_)
  refine lv_iload hx hb0 dX3_firstRow_81 (lv_at hl 7 rfl) ?_
  refine lv_if_eq (tgt := 91) hx hb0 dX3_firstRow_83 (by decide) (fun c_83 => ?_) (fun c_83 => ?_)
  · replace hw := hw.1 c_83
    refine lv_iload hx hb0 dX3_firstRow_91 (lv_at hl 4 rfl) ?_
    refine lv_iload hx hb0 dX3_firstRow_93 (lv_at hl 3 rfl) ?_
    refine z_Si X zc_X3_grown zt_X3_grown zl_X3_18 rfl ⟨rfl, rfl⟩ ⟨Nat.le_of_ble_eq_true rfl, Nat.le_of_ble_eq_true rfl⟩ (kX3_grown l D cy ad X.2.2.2.1 v7 v4) hW hw hl.1 rfl rfl (Nat.le_of_ble_eq_true rfl) dX3_firstRow_95 (fun r_95 M_95 L_95 H_95 locs_95 hw hW => ?_)
    exact mX3_firstRow_98 X post hret K27 hK27 M_95 L_95 v1 v3 v4 a_79 v8 r_95 _ _ ls hw hW (lv_sub hl [1, 2, 3, 0, 5] rfl)
  · replace hw := hw.2 c_83
    refine lv_iload hx hb0 dX3_firstRow_86 (lv_at hl 6 rfl) ?_
    refine lv_goto (tgt := 98) hx hb0 dX3_firstRow_88 (by decide) ?_
    exact mX3_firstRow_98 X post hret K27 hK27 M L v1 v3 v4 a_79 v8 v9 _ _ ls hw hW (lv_sub hl [1, 2, 3, 0, 5] rfl)
set_option maxRecDepth 20000 in
set_option maxHeartbeats 4000000 in
theorem mX3_firstRow_59 {p : Program} {l : Launch} {e : Env} {s : State} {m : MethodId} {args : Array Value} {below : List Frame} {meth : Method} {c : Code} {cells slots : Nat} {Q : State → Prop} {D : va_G} {cy : Nat → ClassId} {ad : Nat → Nat} {A : Nat → Prop} (X : zCx p rmX3_firstRow s m args c cells slots cX3_firstRow 11 RX3 D cy ad A) (post : Int64 → Mm → Ml → Prop) (hret : zRl p l e rmX3_firstRow s m args below meth c cells slots Q cX3_firstRow D cy ad A post) (K27 : Mm → Ml → Int32 → Int32 → Int32 → Int64 → Int32 → Int32 → Prop) (hK27 : ∀ (M : Mm) (L : Ml) (v1 : Int32) (v3 : Int32) (v4 : Int32) (v5 : Int64) (v7 : Int32) (v8 : Int32) (H : Heap) (locs : List Loc) (ls : Array Slot), K27 M L v1 v3 v4 v5 v7 v8 → zWd D cy ad A s H locs M L → lv_has ls 11 [(1, .int v1), (3, .int v3), (4, .int v4), (5, .long v5), (7, .int v7), (8, .int v8)] → W p l e rmX3_firstRow s m args below meth c H locs cells slots Q (F0 m 27 ls [])) : ∀ (M : Mm) (L : Ml) (v1 : Int32) (v3 : Int32) (v4 : Int32) (v5 : Int64) (v7 : Int32) (v8 : Int32) (v9 : Int32) (s0 : Int32) (H : Heap) (locs : List Loc) (ls : Array Slot), wpX3_firstRow_59 post K27 M L v1 v3 v4 v5 v7 v8 v9 s0 → zWd D cy ad A s H locs M L → lv_has ls 11 [(1, .int v1), (3, .int v3), (4, .int v4), (5, .long v5), (7, .int v7), (8, .int v8), (9, .int v9)] → W p l e rmX3_firstRow s m args below meth c H locs cells slots Q (F0 m 59 ls [.int s0]) := by
  have hx := X.1.1; have hb0 := X.1.2.1; have hts := X.1.2.2.2.2
  intro M L v1 v3 v4 v5 v7 v8 v9 s0 H locs ls hw hW hl
  unfold wpX3_firstRow_59 at hw
  refine lv_istore (lv' := [(10, .int s0), (1, .int v1), (3, .int v3), (4, .int v4), (5, .long v5), (7, .int v7), (8, .int v8), (9, .int v9)]) hx hb0 dX3_firstRow_59 hl (by decide) rfl (fun ls hl => ?_)
  refine lv_lload hx hb0 dX3_firstRow_61 (lv_at hl 4 rfl) ?_
  refine lv_ldc2 (v := (10 : Int64)) hx hb0 X.1.2.2.2.1 (hts _ zk_X3_27) dX3_firstRow_63 ?_
  refine lv_lmul hx hb0 dX3_firstRow_66 ?_
  refine lv_iload hx hb0 dX3_firstRow_67 (lv_at hl 0 rfl) ?_
  refine lv_if_eq (tgt := 76) hx hb0 dX3_firstRow_69 (by decide) (fun c_69 => ?_) (fun c_69 => ?_)
  · replace hw := hw.1 c_69
    refine lv_iconst (v := (2 : Int32)) hx hb0 dX3_firstRow_76 (by decide) ?_
    exact mX3_firstRow_77 X post hret K27 hK27 M L v1 v3 v4 v7 v8 v9 s0 (2 : Int32) (v5 * (10 : Int64)) _ _ ls hw hW (lv_sub hl [1, 2, 3, 5, 6, 7, 0] rfl)
  · replace hw := hw.2 c_69
    refine lv_iconst (v := (1 : Int32)) hx hb0 dX3_firstRow_72 (by decide) ?_
    refine lv_goto (tgt := 77) hx hb0 dX3_firstRow_73 (by decide) ?_
    exact mX3_firstRow_77 X post hret K27 hK27 M L v1 v3 v4 v7 v8 v9 s0 (1 : Int32) (v5 * (10 : Int64)) _ _ ls hw hW (lv_sub hl [1, 2, 3, 5, 6, 7, 0] rfl)
set_option maxRecDepth 20000 in
set_option maxHeartbeats 4000000 in
theorem mX3_firstRow_27 {p : Program} {l : Launch} {e : Env} {s : State} {m : MethodId} {args : Array Value} {below : List Frame} {meth : Method} {c : Code} {cells slots : Nat} {Q : State → Prop} {D : va_G} {cy : Nat → ClassId} {ad : Nat → Nat} {A : Nat → Prop} (X : zCx p rmX3_firstRow s m args c cells slots cX3_firstRow 11 RX3 D cy ad A) (post : Int64 → Mm → Ml → Prop) (hret : zRl p l e rmX3_firstRow s m args below meth c cells slots Q cX3_firstRow D cy ad A post) : ∀ (j9 : Nat) (M : Mm) (L : Ml) (v1 : Int32) (v3 : Int32) (v4 : Int32) (v5 : Int64) (v7 : Int32) (v8 : Int32) (H : Heap) (locs : List Loc) (ls : Array Slot), wlX3_firstRow_27 post j9 (M, L, v1, v3, v4, v5, v7, v8) → zWd D cy ad A s H locs M L → lv_has ls 11 [(1, .int v1), (3, .int v3), (4, .int v4), (5, .long v5), (7, .int v7), (8, .int v8)] → W p l e rmX3_firstRow s m args below meth c H locs cells slots Q (F0 m 27 ls []) := by
  have hx := X.1.1; have hb0 := X.1.2.1; have hts := X.1.2.2.2.2
  intro j9
  induction j9 with
  | zero => intro M L v1 v3 v4 v5 v7 v8 H locs ls hw; exact hw.elim
  | succ j9 ih =>
    obtain ⟨K27, hKe⟩ : ∃ K : Mm → Ml → Int32 → Int32 → Int32 → Int64 → Int32 → Int32 → Prop, K = fun M L v1 v3 v4 v5 v7 v8 => wlX3_firstRow_27 post j9 (M, L, v1, v3, v4, v5, v7, v8) := ⟨_, rfl⟩
    have hK27 : ∀ (M : Mm) (L : Ml) (v1 : Int32) (v3 : Int32) (v4 : Int32) (v5 : Int64) (v7 : Int32) (v8 : Int32) (H : Heap) (locs : List Loc) (ls : Array Slot), K27 M L v1 v3 v4 v5 v7 v8 → zWd D cy ad A s H locs M L → lv_has ls 11 [(1, .int v1), (3, .int v3), (4, .int v4), (5, .long v5), (7, .int v7), (8, .int v8)] → W p l e rmX3_firstRow s m args below meth c H locs cells slots Q (F0 m 27 ls []) := by intro M L v1 v3 v4 v5 v7 v8 H locs ls hw; rw [hKe] at hw; exact ih M L v1 v3 v4 v5 v7 v8 H locs ls hw
    intro M L v1 v3 v4 v5 v7 v8 H locs ls hw hW hl
    have hw : wpX3_firstRow_27 post K27 M L v1 v3 v4 v5 v7 v8 := by rw [hKe]; exact hw
    clear ih
    unfold wpX3_firstRow_27 at hw
    refine lv_iload hx hb0 dX3_firstRow_27 (lv_at hl 5 rfl) ?_
    refine lv_if_lt (tgt := 106) hx hb0 dX3_firstRow_29 (by decide) (fun c_29 => ?_) (fun c_29 => ?_)
    · replace hw := hw.1 c_29
      refine lv_lload hx hb0 dX3_firstRow_106 (lv_at hl 3 rfl) ?_
      exact hret _ ls _ _ v5 M L dX3_firstRow_108 hw hW
    · replace hw := hw.2 c_29
      refine lv_iload hx hb0 dX3_firstRow_32 (lv_at hl 4 rfl) ?_
      refine lv_iload_n hx hb0 dX3_firstRow_34 rfl (lv_at hl 1 rfl) ?_
      refine z_Si X zc_X3_grown zt_X3_grown zl_X3_18 rfl ⟨rfl, rfl⟩ ⟨Nat.le_of_ble_eq_true rfl, Nat.le_of_ble_eq_true rfl⟩ (kX3_grown l D cy ad X.2.2.2.1 v7 v3) hW hw hl.1 rfl rfl (Nat.le_of_ble_eq_true rfl) dX3_firstRow_35 (fun r_35 M_35 L_35 H_35 locs_35 hw hW => ?_)
      refine lv_istore (lv' := [(9, .int r_35), (1, .int v1), (3, .int v3), (4, .int v4), (5, .long v5), (7, .int v7), (8, .int v8)]) hx hb0 dX3_firstRow_38 hl (by decide) rfl (fun ls hl => ?_)
      refine lv_iload hx hb0 dX3_firstRow_40 (lv_at hl 0 rfl) ?_
      refine lv_iload_n hx hb0 dX3_firstRow_42 rfl (lv_at hl 1 rfl) ?_
      refine lv_iload hx hb0 dX3_firstRow_43 (lv_at hl 6 rfl) ?_
      refine lv_iload_n hx hb0 dX3_firstRow_45 rfl (lv_at hl 2 rfl) ?_
      refine lv_iload hx hb0 dX3_firstRow_46 (lv_at hl 3 rfl) ?_
      refine z_Si X zc_X3_rows zt_X3_rows zl_X3_21 rfl ⟨rfl, rfl⟩ ⟨Nat.le_of_ble_eq_true rfl, Nat.le_of_ble_eq_true rfl⟩ (kX3_rows l D cy ad X.2.2.2.1 11 r_35 v1 v8 v3 v4) hW hw hl.1 rfl rfl (Nat.le_of_ble_eq_true rfl) dX3_firstRow_48 (fun r_48 M_48 L_48 H_48 locs_48 hw hW => ?_)
      refine lv_if_le (tgt := 58) hx hb0 dX3_firstRow_51 (by decide) (fun c_51 => ?_) (fun c_51 => ?_)
      · replace hw := hw.1 c_51
        refine lv_iconst (v := (0 : Int32)) hx hb0 dX3_firstRow_58 (by decide) ?_
        exact mX3_firstRow_59 X post hret K27 hK27 M_48 L_48 v1 v3 v4 v5 v7 v8 r_35 (0 : Int32) _ _ ls hw hW (lv_sub hl [1, 2, 3, 4, 5, 6, 0] rfl)
      · replace hw := hw.2 c_51
        refine lv_iconst (v := (1 : Int32)) hx hb0 dX3_firstRow_54 (by decide) ?_
        refine lv_goto (tgt := 59) hx hb0 dX3_firstRow_55 (by decide) ?_
        exact mX3_firstRow_59 X post hret K27 hK27 M_48 L_48 v1 v3 v4 v5 v7 v8 r_35 (1 : Int32) _ _ ls hw hW (lv_sub hl [1, 2, 3, 4, 5, 6, 0] rfl)
set_option maxRecDepth 20000 in
set_option maxHeartbeats 4000000 in
theorem mX3_firstRow {p : Program} {l : Launch} {e : Env} {s : State} {m : MethodId} {args : Array Value} {below : List Frame} {meth : Method} {c : Code} {cells slots : Nat} {Q : State → Prop} {D : va_G} {cy : Nat → ClassId} {ad : Nat → Nat} {A : Nat → Prop} (X : zCx p rmX3_firstRow s m args c cells slots cX3_firstRow 11 RX3 D cy ad A) (post : Int64 → Mm → Ml → Prop) (hret : zRl p l e rmX3_firstRow s m args below meth c cells slots Q cX3_firstRow D cy ad A post) : ∀ (M : Mm) (L : Ml) (x1 : Int32) (x2 : Int32) (x3 : Int32) (x4 : Int32) (x5 : Int32) (H : Heap) (locs : List Loc) (ls : Array Slot), wpX3_firstRow x1 x2 x3 x4 x5 M L post → zWd D cy ad A s H locs M L → lv_has ls 11 [(0, .int x1), (1, .int x2), (2, .int x3), (3, .int x4), (4, .int x5)] → W p l e rmX3_firstRow s m args below meth c H locs cells slots Q (F0 m 0 ls []) := by
  have hx := X.1.1; have hb0 := X.1.2.1; have hts := X.1.2.2.2.2
  intro M L x1 x2 x3 x4 x5 H locs ls hw hW hl
  unfold wpX3_firstRow at hw
  refine lv_iload_n hx hb0 dX3_firstRow_0 rfl (lv_at hl 0 rfl) ?_
  refine lv_iload_n hx hb0 dX3_firstRow_1 rfl (lv_at hl 1 rfl) ?_
  refine lv_iload_n hx hb0 dX3_firstRow_2 rfl (lv_at hl 2 rfl) ?_
  refine lv_iload_n hx hb0 dX3_firstRow_3 rfl (lv_at hl 3 rfl) ?_
  refine lv_iload hx hb0 dX3_firstRow_4 (lv_at hl 4 rfl) ?_
  refine z_Si X zc_X3_rows zt_X3_rows zl_X3_21 rfl ⟨rfl, rfl⟩ ⟨Nat.le_of_ble_eq_true rfl, Nat.le_of_ble_eq_true rfl⟩ (kX3_rows l D cy ad X.2.2.2.1 11 x1 x2 x3 x4 x5) hW hw hl.1 rfl rfl (Nat.le_of_ble_eq_true rfl) dX3_firstRow_6 (fun r_6 M_6 L_6 H_6 locs_6 hw hW => ?_)
  refine lv_if_ne (tgt := 16) hx hb0 dX3_firstRow_9 (by decide) (fun c_9 => ?_) (fun c_9 => ?_)
  · replace hw := hw.1 c_9
    refine lv_lconst (v := (0 : Int64)) hx hb0 dX3_firstRow_16 (by decide) ?_
    refine lv_lstore (lv' := [(5, .long (0 : Int64)), (0, .int x1), (1, .int x2), (2, .int x3), (3, .int x4), (4, .int x5)]) hx hb0 dX3_firstRow_17 hl (by decide) rfl (fun ls hl => ?_)
    refine lv_iload_n hx hb0 dX3_firstRow_19 rfl (lv_at hl 1 rfl) ?_
    refine lv_istore (lv' := [(7, .int x1), (5, .long (0 : Int64)), (0, .int x1), (1, .int x2), (2, .int x3), (3, .int x4), (4, .int x5)]) hx hb0 dX3_firstRow_20 hl (by decide) rfl (fun ls hl => ?_)
    refine lv_iload_n hx hb0 dX3_firstRow_22 rfl (lv_at hl 4 rfl) ?_
    refine lv_iconst (v := (1 : Int32)) hx hb0 dX3_firstRow_23 (by decide) ?_
    refine lv_isub hx hb0 dX3_firstRow_24 ?_
    refine lv_topi (fun a_25 e_25 => ?_)
    replace hw := hw a_25 e_25
    refine lv_istore (lv' := [(8, .int a_25), (7, .int x1), (5, .long (0 : Int64)), (0, .int x1), (1, .int x2), (2, .int x3), (3, .int x4), (4, .int x5)]) hx hb0 dX3_firstRow_25 hl (by decide) rfl (fun ls hl => ?_)
    obtain ⟨n_27, hw⟩ := hw
    exact mX3_firstRow_27 X post hret n_27 M_6 L_6 x2 x4 x5 (0 : Int64) x1 a_25 _ _ ls hw hW (lv_sub hl [4, 6, 7, 2, 1, 0] rfl)
  · replace hw := hw.2 c_9
    refine lv_ldc2 (v := (-6 : Int64)) hx hb0 X.1.2.2.2.1 (hts _ zk_X3_25) dX3_firstRow_12 ?_
    exact hret _ ls _ _ (-6 : Int64) M_6 L_6 dX3_firstRow_15 hw hW
theorem kX3_firstRow (l : Launch) (D : va_G) (cy : Nat → ClassId) (ad : Nat → Nat) (hi : zInj ad) (x1 : Int32) (x2 : Int32) (x3 : Int32) (x4 : Int32) (x5 : Int32) : zMl l yX3_firstRow (.code yX3_firstRow cX3_firstRow 11 (some .long) :: zG) rmX3_firstRow D cy ad [.int x1, .int x2, .int x3, .int x4, .int x5] (wpX3_firstRow x1 x2 x3 x4 x5) :=
  zMl_of (by decide +kernel) (Nat.le_of_ble_eq_true rfl) hi (fun X M L post _ hret ls hl hw hW => mX3_firstRow X post hret M L x1 x2 x3 x4 x5 _ _ ls hw hW hl)
abbrev rmX4_fall : Room := { frames := 1, cells := 0, slots := 0, locals := 23 }
set_option maxRecDepth 20000 in
set_option maxHeartbeats 4000000 in
theorem mX4_fall_66 {p : Program} {l : Launch} {e : Env} {s : State} {m : MethodId} {args : Array Value} {below : List Frame} {meth : Method} {c : Code} {cells slots : Nat} {Q : State → Prop} {D : va_G} {cy : Nat → ClassId} {ad : Nat → Nat} {A : Nat → Prop} (X : zCx p rmX4_fall s m args c cells slots cX4_fall 10 RX4 D cy ad A) (post : Mm → Ml → Prop) (hret : zRv p l e rmX4_fall s m args below meth c cells slots Q cX4_fall D cy ad A post) (K18 : Mm → Ml → Int32 → Int32 → Int32 → Int32 → Prop) (hK18 : ∀ (M : Mm) (L : Ml) (v2 : Int32) (v3 : Int32) (v4 : Int32) (v5 : Int32) (H : Heap) (locs : List Loc) (ls : Array Slot), K18 M L v2 v3 v4 v5 → zWd D cy ad A s H locs M L → lv_has ls 10 [(0, .ref (ad 10)), (2, .int v2), (3, .int v3), (4, .int v4), (5, .int v5)] → W p l e rmX4_fall s m args below meth c H locs cells slots Q (F0 m 18 ls [])) (K30 : Mm → Ml → Int32 → Int32 → Int32 → Int32 → Int32 → Int32 → Prop) (hK30 : ∀ (M : Mm) (L : Ml) (v2 : Int32) (v3 : Int32) (v4 : Int32) (v5 : Int32) (v6 : Int32) (v7 : Int32) (H : Heap) (locs : List Loc) (ls : Array Slot), K30 M L v2 v3 v4 v5 v6 v7 → zWd D cy ad A s H locs M L → lv_has ls 10 [(0, .ref (ad 10)), (2, .int v2), (3, .int v3), (4, .int v4), (5, .int v5), (6, .int v6), (7, .int v7)] → W p l e rmX4_fall s m args below meth c H locs cells slots Q (F0 m 30 ls [])) : ∀ (M : Mm) (L : Ml) (v2 : Int32) (v3 : Int32) (v4 : Int32) (v5 : Int32) (v6 : Int32) (v7 : Int32) (v8 : Int32) (s0 : Int32) (H : Heap) (locs : List Loc) (ls : Array Slot), wpX4_fall_66 post K18 K30 M L v2 v3 v4 v5 v6 v7 v8 s0 → zWd D cy ad A s H locs M L → lv_has ls 10 [(0, .ref (ad 10)), (2, .int v2), (3, .int v3), (4, .int v4), (5, .int v5), (6, .int v6), (7, .int v7), (8, .int v8)] → W p l e rmX4_fall s m args below meth c H locs cells slots Q (F0 m 66 ls [.int s0]) := by
  have hx := X.1.1; have hb0 := X.1.2.1; have hts := X.1.2.2.2.2
  intro M L v2 v3 v4 v5 v6 v7 v8 s0 H locs ls hw hW hl
  unfold wpX4_fall_66 at hw
  refine lv_istore (lv' := [(9, .int s0), (0, .ref (ad 10)), (2, .int v2), (3, .int v3), (4, .int v4), (5, .int v5), (6, .int v6), (7, .int v7), (8, .int v8)]) hx hb0 dX4_fall_66 hl (by decide) rfl (fun ls hl => ?_)
  refine lv_aload_n hx hb0 dX4_fall_68 rfl (lv_at hl 1 rfl) ?_
  refine z_getR (k2 := 11) X hW zC2 zR_10_0 (by decide) rfl zl_X4_9 dX4_fall_69 ?_
  refine lv_iload hx hb0 dX4_fall_72 (lv_at hl 7 rfl) ?_
  refine lv_iload hx hb0 dX4_fall_74 (lv_at hl 8 rfl) ?_
  refine lv_bipush (v := (10 : Int32)) hx hb0 dX4_fall_76 (by decide) ?_
  refine lv_iload_n hx hb0 dX4_fall_78 rfl (lv_at hl 3 rfl) ?_
  refine lv_isub hx hb0 dX4_fall_79 ?_
  refine lv_iload hx hb0 dX4_fall_80 (lv_at hl 4 rfl) ?_
  refine lv_isub hx hb0 dX4_fall_82 ?_
  refine lv_imul hx hb0 dX4_fall_83 ?_
  refine lv_iload hx hb0 dX4_fall_84 (lv_at hl 6 rfl) ?_
  refine lv_iload hx hb0 dX4_fall_86 (lv_at hl 4 rfl) ?_
  refine lv_imul hx hb0 dX4_fall_88 ?_
  refine lv_iadd hx hb0 dX4_fall_89 ?_
  refine lv_iload hx hb0 dX4_fall_90 (lv_at hl 0 rfl) ?_
  refine lv_iload_n hx hb0 dX4_fall_92 rfl (lv_at hl 3 rfl) ?_
  refine lv_imul hx hb0 dX4_fall_93 ?_
  refine lv_iadd hx hb0 dX4_fall_94 ?_
  obtain ⟨g_95, hw⟩ := hw
  refine z_iast X hW zI_11 g_95 dX4_fall_95 (fun M_95 H_95 locs_95 e_95 hW => ?_)
  replace hw := hw M_95 e_95
  refine lv_iload hx hb0 dX4_fall_96 (lv_at hl 8 rfl) ?_
  refine lv_istore (lv' := [(6, .int v8), (9, .int s0), (0, .ref (ad 10)), (2, .int v2), (3, .int v3), (4, .int v4), (5, .int v5), (7, .int v7), (8, .int v8)]) hx hb0 dX4_fall_98 hl (by decide) rfl (fun ls hl => ?_)
  obtain ⟨a_100, e_100⟩ : ∃ y : Int32, y = v7 + (1 : Int32) := ⟨_, rfl⟩
  replace hw := hw a_100 e_100
  refine lv_iinc (v := a_100) (lv' := [(7, .int a_100), (6, .int v8), (9, .int s0), (0, .ref (ad 10)), (2, .int v2), (3, .int v3), (4, .int v4), (5, .int v5), (8, .int v8)]) hx hb0 dX4_fall_100 hl (k := 7) rfl (by rw [e_100]; rfl) (by decide) rfl (fun ls hl => ?_)
  refine lv_goto (tgt := 30) hx hb0 dX4_fall_103 (by decide) ?_
  exact hK30 M_95 L v2 v3 v4 v5 v8 a_100 _ _ ls hw hW (lv_sub hl [3, 4, 5, 6, 7, 1, 0] rfl)
set_option maxRecDepth 20000 in
set_option maxHeartbeats 4000000 in
theorem mX4_fall_30 {p : Program} {l : Launch} {e : Env} {s : State} {m : MethodId} {args : Array Value} {below : List Frame} {meth : Method} {c : Code} {cells slots : Nat} {Q : State → Prop} {D : va_G} {cy : Nat → ClassId} {ad : Nat → Nat} {A : Nat → Prop} (X : zCx p rmX4_fall s m args c cells slots cX4_fall 10 RX4 D cy ad A) (post : Mm → Ml → Prop) (hret : zRv p l e rmX4_fall s m args below meth c cells slots Q cX4_fall D cy ad A post) (K18 : Mm → Ml → Int32 → Int32 → Int32 → Int32 → Prop) (hK18 : ∀ (M : Mm) (L : Ml) (v2 : Int32) (v3 : Int32) (v4 : Int32) (v5 : Int32) (H : Heap) (locs : List Loc) (ls : Array Slot), K18 M L v2 v3 v4 v5 → zWd D cy ad A s H locs M L → lv_has ls 10 [(0, .ref (ad 10)), (2, .int v2), (3, .int v3), (4, .int v4), (5, .int v5)] → W p l e rmX4_fall s m args below meth c H locs cells slots Q (F0 m 18 ls [])) : ∀ (j9 : Nat) (M : Mm) (L : Ml) (v2 : Int32) (v3 : Int32) (v4 : Int32) (v5 : Int32) (v6 : Int32) (v7 : Int32) (H : Heap) (locs : List Loc) (ls : Array Slot), wlX4_fall_30 post K18 j9 (M, L, v2, v3, v4, v5, v6, v7) → zWd D cy ad A s H locs M L → lv_has ls 10 [(0, .ref (ad 10)), (2, .int v2), (3, .int v3), (4, .int v4), (5, .int v5), (6, .int v6), (7, .int v7)] → W p l e rmX4_fall s m args below meth c H locs cells slots Q (F0 m 30 ls []) := by
  have hx := X.1.1; have hb0 := X.1.2.1; have hts := X.1.2.2.2.2
  intro j9
  induction j9 with
  | zero => intro M L v2 v3 v4 v5 v6 v7 H locs ls hw; exact hw.elim
  | succ j9 ih =>
    obtain ⟨K30, hKe⟩ : ∃ K : Mm → Ml → Int32 → Int32 → Int32 → Int32 → Int32 → Int32 → Prop, K = fun M L v2 v3 v4 v5 v6 v7 => wlX4_fall_30 post K18 j9 (M, L, v2, v3, v4, v5, v6, v7) := ⟨_, rfl⟩
    have hK30 : ∀ (M : Mm) (L : Ml) (v2 : Int32) (v3 : Int32) (v4 : Int32) (v5 : Int32) (v6 : Int32) (v7 : Int32) (H : Heap) (locs : List Loc) (ls : Array Slot), K30 M L v2 v3 v4 v5 v6 v7 → zWd D cy ad A s H locs M L → lv_has ls 10 [(0, .ref (ad 10)), (2, .int v2), (3, .int v3), (4, .int v4), (5, .int v5), (6, .int v6), (7, .int v7)] → W p l e rmX4_fall s m args below meth c H locs cells slots Q (F0 m 30 ls []) := by intro M L v2 v3 v4 v5 v6 v7 H locs ls hw; rw [hKe] at hw; exact ih M L v2 v3 v4 v5 v6 v7 H locs ls hw
    intro M L v2 v3 v4 v5 v6 v7 H locs ls hw hW hl
    have hw : wpX4_fall_30 post K18 K30 M L v2 v3 v4 v5 v6 v7 := by rw [hKe]; exact hw
    clear ih
    unfold wpX4_fall_30 at hw
    refine lv_iload hx hb0 dX4_fall_30 (lv_at hl 6 rfl) ?_
    refine lv_bipush (v := (16 : Int32)) hx hb0 dX4_fall_32 (by decide) ?_
    refine lv_icmp_ge (tgt := 106) hx hb0 dX4_fall_34 (by decide) (fun c_34 => ?_) (fun c_34 => ?_)
    · replace hw := hw.1 c_34
      obtain ⟨a_106, e_106⟩ : ∃ y : Int32, y = v5 + (1 : Int32) := ⟨_, rfl⟩
      replace hw := hw a_106 e_106
      refine lv_iinc (v := a_106) (lv' := [(5, .int a_106), (0, .ref (ad 10)), (2, .int v2), (3, .int v3), (4, .int v4), (6, .int v6), (7, .int v7)]) hx hb0 dX4_fall_106 hl (k := 4) rfl (by rw [e_106]; rfl) (by decide) rfl (fun ls hl => ?_)
      refine lv_goto (tgt := 18) hx hb0 dX4_fall_109 (by decide) ?_
      exact hK18 M L v2 v3 v4 a_106 _ _ ls hw hW (lv_sub hl [1, 2, 3, 4, 0] rfl)
    · replace hw := hw.2 c_34
      refine lv_aload_n hx hb0 dX4_fall_37 rfl (lv_at hl 0 rfl) ?_
      refine z_getR (k2 := 11) X hW zC2 zR_10_0 (by decide) rfl zl_X4_9 dX4_fall_38 ?_
      refine lv_iload hx hb0 dX4_fall_41 (lv_at hl 6 rfl) ?_
      obtain ⟨g_43, hw⟩ := hw
      refine z_iald X hW zI_11 g_43 dX4_fall_43 ?_
      refine lv_topi (fun a_44 e_44 => ?_)
      replace hw := hw a_44 e_44
      refine lv_istore (lv' := [(8, .int a_44), (0, .ref (ad 10)), (2, .int v2), (3, .int v3), (4, .int v4), (5, .int v5), (6, .int v6), (7, .int v7)]) hx hb0 dX4_fall_44 hl (by decide) rfl (fun ls hl => ?_)
      refine lv_iload hx hb0 dX4_fall_46 (lv_at hl 7 rfl) ?_
      refine lv_bipush (v := (15 : Int32)) hx hb0 dX4_fall_48 (by decide) ?_
      refine lv_icmp_ne (tgt := 57) hx hb0 dX4_fall_50 (by decide) (fun c_50 => ?_) (fun c_50 => ?_)
      · replace hw := hw.1 c_50
        refine lv_aload_n hx hb0 dX4_fall_57 rfl (lv_at hl 1 rfl) ?_
        refine z_getR (k2 := 11) X hW zC2 zR_10_0 (by decide) rfl zl_X4_9 dX4_fall_58 ?_
        refine lv_iload hx hb0 dX4_fall_61 (lv_at hl 7 rfl) ?_
        refine lv_iconst (v := (1 : Int32)) hx hb0 dX4_fall_63 (by decide) ?_
        refine lv_iadd hx hb0 dX4_fall_64 ?_
        obtain ⟨g_65, hw⟩ := hw
        refine z_iald X hW zI_11 g_65 dX4_fall_65 ?_
        exact mX4_fall_66 X post hret K18 hK18 K30 hK30 M L v2 v3 v4 v5 v6 v7 a_44 (M 11 (v7 + (1 : Int32)).toNatClampNeg) _ _ ls hw hW (lv_sub hl [1, 2, 3, 4, 5, 6, 7, 0] rfl)
      · replace hw := hw.2 c_50
        refine lv_iconst (v := (0 : Int32)) hx hb0 dX4_fall_53 (by decide) ?_
        refine lv_goto (tgt := 66) hx hb0 dX4_fall_54 (by decide) ?_
        exact mX4_fall_66 X post hret K18 hK18 K30 hK30 M L v2 v3 v4 v5 v6 v7 a_44 (0 : Int32) _ _ ls hw hW (lv_sub hl [1, 2, 3, 4, 5, 6, 7, 0] rfl)
set_option maxRecDepth 20000 in
set_option maxHeartbeats 4000000 in
theorem mX4_fall_18 {p : Program} {l : Launch} {e : Env} {s : State} {m : MethodId} {args : Array Value} {below : List Frame} {meth : Method} {c : Code} {cells slots : Nat} {Q : State → Prop} {D : va_G} {cy : Nat → ClassId} {ad : Nat → Nat} {A : Nat → Prop} (X : zCx p rmX4_fall s m args c cells slots cX4_fall 10 RX4 D cy ad A) (post : Mm → Ml → Prop) (hret : zRv p l e rmX4_fall s m args below meth c cells slots Q cX4_fall D cy ad A post) : ∀ (j9 : Nat) (M : Mm) (L : Ml) (v2 : Int32) (v3 : Int32) (v4 : Int32) (v5 : Int32) (H : Heap) (locs : List Loc) (ls : Array Slot), wlX4_fall_18 post j9 (M, L, v2, v3, v4, v5) → zWd D cy ad A s H locs M L → lv_has ls 10 [(0, .ref (ad 10)), (2, .int v2), (3, .int v3), (4, .int v4), (5, .int v5)] → W p l e rmX4_fall s m args below meth c H locs cells slots Q (F0 m 18 ls []) := by
  have hx := X.1.1; have hb0 := X.1.2.1; have hts := X.1.2.2.2.2
  intro j9
  induction j9 with
  | zero => intro M L v2 v3 v4 v5 H locs ls hw; exact hw.elim
  | succ j9 ih =>
    obtain ⟨K18, hKe⟩ : ∃ K : Mm → Ml → Int32 → Int32 → Int32 → Int32 → Prop, K = fun M L v2 v3 v4 v5 => wlX4_fall_18 post j9 (M, L, v2, v3, v4, v5) := ⟨_, rfl⟩
    have hK18 : ∀ (M : Mm) (L : Ml) (v2 : Int32) (v3 : Int32) (v4 : Int32) (v5 : Int32) (H : Heap) (locs : List Loc) (ls : Array Slot), K18 M L v2 v3 v4 v5 → zWd D cy ad A s H locs M L → lv_has ls 10 [(0, .ref (ad 10)), (2, .int v2), (3, .int v3), (4, .int v4), (5, .int v5)] → W p l e rmX4_fall s m args below meth c H locs cells slots Q (F0 m 18 ls []) := by intro M L v2 v3 v4 v5 H locs ls hw; rw [hKe] at hw; exact ih M L v2 v3 v4 v5 H locs ls hw
    intro M L v2 v3 v4 v5 H locs ls hw hW hl
    have hw : wpX4_fall_18 post K18 M L v2 v3 v4 v5 := by rw [hKe]; exact hw
    clear ih
    unfold wpX4_fall_18 at hw
    refine lv_iload hx hb0 dX4_fall_18 (lv_at hl 4 rfl) ?_
    refine lv_iload_n hx hb0 dX4_fall_20 rfl (lv_at hl 1 rfl) ?_
    refine lv_icmp_ge (tgt := 112) hx hb0 dX4_fall_21 (by decide) (fun c_21 => ?_) (fun c_21 => ?_)
    · replace hw := hw.1 c_21
      exact hret _ ls _ _ M L dX4_fall_112 hw hW
    · replace hw := hw.2 c_21
      refine lv_iconst (v := (0 : Int32)) hx hb0 dX4_fall_24 (by decide) ?_
      refine lv_istore (lv' := [(6, .int (0 : Int32)), (0, .ref (ad 10)), (2, .int v2), (3, .int v3), (4, .int v4), (5, .int v5)]) hx hb0 dX4_fall_25 hl (by decide) rfl (fun ls hl => ?_)
      refine lv_iconst (v := (0 : Int32)) hx hb0 dX4_fall_27 (by decide) ?_
      refine lv_istore (lv' := [(7, .int (0 : Int32)), (6, .int (0 : Int32)), (0, .ref (ad 10)), (2, .int v2), (3, .int v3), (4, .int v4), (5, .int v5)]) hx hb0 dX4_fall_28 hl (by decide) rfl (fun ls hl => ?_)
      obtain ⟨n_30, hw⟩ := hw
      exact mX4_fall_30 X post hret K18 hK18 n_30 M L v2 v3 v4 v5 (0 : Int32) (0 : Int32) _ _ ls hw hW (lv_sub hl [2, 3, 4, 5, 6, 1, 0] rfl)
set_option maxRecDepth 20000 in
set_option maxHeartbeats 4000000 in
theorem mX4_fall {p : Program} {l : Launch} {e : Env} {s : State} {m : MethodId} {args : Array Value} {below : List Frame} {meth : Method} {c : Code} {cells slots : Nat} {Q : State → Prop} {D : va_G} {cy : Nat → ClassId} {ad : Nat → Nat} {A : Nat → Prop} (X : zCx p rmX4_fall s m args c cells slots cX4_fall 10 RX4 D cy ad A) (post : Mm → Ml → Prop) (hret : zRv p l e rmX4_fall s m args below meth c cells slots Q cX4_fall D cy ad A post) : ∀ (M : Mm) (L : Ml) (x1 : Int32) (x2 : Int32) (x3 : Int32) (x4 : Int32) (H : Heap) (locs : List Loc) (ls : Array Slot), wpX4_fall x1 x2 x3 x4 M L post → zWd D cy ad A s H locs M L → lv_has ls 10 [(0, .ref (ad 10)), (1, .int x1), (2, .int x2), (3, .int x3), (4, .int x4)] → W p l e rmX4_fall s m args below meth c H locs cells slots Q (F0 m 0 ls []) := by
  have hx := X.1.1; have hb0 := X.1.2.1; have hts := X.1.2.2.2.2
  intro M L x1 x2 x3 x4 H locs ls hw hW hl
  unfold wpX4_fall at hw
  refine lv_aload_n hx hb0 dX4_fall_0 rfl (lv_at hl 0 rfl) ?_
  refine z_getR (k2 := 11) X hW zC2 zR_10_0 (by decide) rfl zl_X4_9 dX4_fall_1 ?_
  refine lv_iconst (v := (0 : Int32)) hx hb0 dX4_fall_4 (by decide) ?_
  refine z_Sv X zc_J7_fill_53178 zt_J7_fill_53178 zl_X4_15 rfl ⟨rfl, rfl⟩ ⟨Nat.le_of_ble_eq_true rfl, Nat.le_of_ble_eq_true rfl⟩ (kJ7_fill_53178 l D cy ad X.2.2.2.1 zI_11 (0 : Int32)) hW hw hl.1 rfl rfl (Nat.le_of_ble_eq_true rfl) dX4_fall_5 (fun M_5 L_5 H_5 locs_5 hw hW => ?_)
  refine lv_aload_n hx hb0 dX4_fall_8 rfl (lv_at hl 0 rfl) ?_
  refine z_getR (k2 := 11) X hW zC2 zR_10_0 (by decide) rfl zl_X4_9 dX4_fall_9 ?_
  refine lv_iload_n hx hb0 dX4_fall_12 rfl (lv_at hl 1 rfl) ?_
  refine lv_iconst (v := (1 : Int32)) hx hb0 dX4_fall_13 (by decide) ?_
  obtain ⟨g_14, hw⟩ := hw
  refine z_iast X hW zI_11 g_14 dX4_fall_14 (fun M_14 H_14 locs_14 e_14 hW => ?_)
  replace hw := hw M_14 e_14
  refine lv_iconst (v := (0 : Int32)) hx hb0 dX4_fall_15 (by decide) ?_
  refine lv_istore (lv' := [(5, .int (0 : Int32)), (0, .ref (ad 10)), (1, .int x1), (2, .int x2), (3, .int x3), (4, .int x4)]) hx hb0 dX4_fall_16 hl (by decide) rfl (fun ls hl => ?_)
  obtain ⟨n_18, hw⟩ := hw
  exact mX4_fall_18 X post hret n_18 M_14 L_5 x2 x3 x4 (0 : Int32) _ _ ls hw hW (lv_sub hl [1, 3, 4, 5, 0] rfl)
theorem kX4_fall (l : Launch) (D : va_G) (cy : Nat → ClassId) (ad : Nat → Nat) (hi : zInj ad) (x1 : Int32) (x2 : Int32) (x3 : Int32) (x4 : Int32) : zMv l yX4_fall (.code yX4_fall cX4_fall 10 none :: zG) rmX4_fall D cy ad [.ref (ad 10), .int x1, .int x2, .int x3, .int x4] (wpX4_fall x1 x2 x3 x4) :=
  zMv_of (by decide +kernel) (Nat.le_of_ble_eq_true rfl) hi (fun X M L post _ hret ls hl hw hW => mX4_fall X post hret M L x1 x2 x3 x4 _ _ ls hw hW hl)
abbrev rmX4_all : Room := { frames := 0, cells := 0, slots := 0, locals := 0 }
set_option maxRecDepth 20000 in
set_option maxHeartbeats 4000000 in
theorem mX4_all_4 {p : Program} {l : Launch} {e : Env} {s : State} {m : MethodId} {args : Array Value} {below : List Frame} {meth : Method} {c : Code} {cells slots : Nat} {Q : State → Prop} {D : va_G} {cy : Nat → ClassId} {ad : Nat → Nat} {A : Nat → Prop} (X : zCx p rmX4_all s m args c cells slots cX4_all 3 RX4 D cy ad A) (post : Int32 → Mm → Ml → Prop) (hret : zRi p l e rmX4_all s m args below meth c cells slots Q cX4_all D cy ad A .int post) : ∀ (j9 : Nat) (M : Mm) (L : Ml) (v1 : Int32) (v2 : Int32) (H : Heap) (locs : List Loc) (ls : Array Slot), wlX4_all_4 post j9 (M, L, v1, v2) → zWd D cy ad A s H locs M L → lv_has ls 3 [(0, .ref (ad 10)), (1, .int v1), (2, .int v2)] → W p l e rmX4_all s m args below meth c H locs cells slots Q (F0 m 4 ls []) := by
  have hx := X.1.1; have hb0 := X.1.2.1; have hts := X.1.2.2.2.2
  intro j9
  induction j9 with
  | zero => intro M L v1 v2 H locs ls hw; exact hw.elim
  | succ j9 ih =>
    obtain ⟨K4, hKe⟩ : ∃ K : Mm → Ml → Int32 → Int32 → Prop, K = fun M L v1 v2 => wlX4_all_4 post j9 (M, L, v1, v2) := ⟨_, rfl⟩
    have hK4 : ∀ (M : Mm) (L : Ml) (v1 : Int32) (v2 : Int32) (H : Heap) (locs : List Loc) (ls : Array Slot), K4 M L v1 v2 → zWd D cy ad A s H locs M L → lv_has ls 3 [(0, .ref (ad 10)), (1, .int v1), (2, .int v2)] → W p l e rmX4_all s m args below meth c H locs cells slots Q (F0 m 4 ls []) := by intro M L v1 v2 H locs ls hw; rw [hKe] at hw; exact ih M L v1 v2 H locs ls hw
    intro M L v1 v2 H locs ls hw hW hl
    have hw : wpX4_all_4 post K4 M L v1 v2 := by rw [hKe]; exact hw
    clear ih
    unfold wpX4_all_4 at hw
    refine lv_iload_n hx hb0 dX4_all_4 rfl (lv_at hl 2 rfl) ?_
    refine lv_bipush (v := (16 : Int32)) hx hb0 dX4_all_5 (by decide) ?_
    refine lv_icmp_ge (tgt := 25) hx hb0 dX4_all_7 (by decide) (fun c_7 => ?_) (fun c_7 => ?_)
    · replace hw := hw.1 c_7
      refine lv_iload_n hx hb0 dX4_all_25 rfl (lv_at hl 1 rfl) ?_
      exact hret _ ls _ _ v1 M L dX4_all_26 rfl hw hW
    · replace hw := hw.2 c_7
      refine lv_iload_n hx hb0 dX4_all_10 rfl (lv_at hl 1 rfl) ?_
      refine lv_aload_n hx hb0 dX4_all_11 rfl (lv_at hl 0 rfl) ?_
      refine z_getR (k2 := 11) X hW zC2 zR_10_0 (by decide) rfl zl_X4_9 dX4_all_12 ?_
      refine lv_iload_n hx hb0 dX4_all_15 rfl (lv_at hl 2 rfl) ?_
      obtain ⟨g_16, hw⟩ := hw
      refine z_iald X hW zI_11 g_16 dX4_all_16 ?_
      refine lv_iadd hx hb0 dX4_all_17 ?_
      refine lv_topi (fun a_18 e_18 => ?_)
      replace hw := hw a_18 e_18
      refine lv_istore_n (lv' := [(1, .int a_18), (0, .ref (ad 10)), (2, .int v2)]) hx hb0 dX4_all_18 rfl hl (by decide) rfl (fun ls hl => ?_)
      obtain ⟨a_19, e_19⟩ : ∃ y : Int32, y = v2 + (1 : Int32) := ⟨_, rfl⟩
      replace hw := hw a_19 e_19
      refine lv_iinc (v := a_19) (lv' := [(2, .int a_19), (1, .int a_18), (0, .ref (ad 10))]) hx hb0 dX4_all_19 hl (k := 2) rfl (by rw [e_19]; rfl) (by decide) rfl (fun ls hl => ?_)
      refine lv_goto (tgt := 4) hx hb0 dX4_all_22 (by decide) ?_
      exact hK4 M L a_18 a_19 _ _ ls hw hW (lv_sub hl [2, 1, 0] rfl)
set_option maxRecDepth 20000 in
set_option maxHeartbeats 4000000 in
theorem mX4_all {p : Program} {l : Launch} {e : Env} {s : State} {m : MethodId} {args : Array Value} {below : List Frame} {meth : Method} {c : Code} {cells slots : Nat} {Q : State → Prop} {D : va_G} {cy : Nat → ClassId} {ad : Nat → Nat} {A : Nat → Prop} (X : zCx p rmX4_all s m args c cells slots cX4_all 3 RX4 D cy ad A) (post : Int32 → Mm → Ml → Prop) (hret : zRi p l e rmX4_all s m args below meth c cells slots Q cX4_all D cy ad A .int post) : ∀ (M : Mm) (L : Ml) (H : Heap) (locs : List Loc) (ls : Array Slot), wpX4_all M L post → zWd D cy ad A s H locs M L → lv_has ls 3 [(0, .ref (ad 10))] → W p l e rmX4_all s m args below meth c H locs cells slots Q (F0 m 0 ls []) := by
  have hx := X.1.1; have hb0 := X.1.2.1; have hts := X.1.2.2.2.2
  intro M L H locs ls hw hW hl
  unfold wpX4_all at hw
  refine lv_iconst (v := (0 : Int32)) hx hb0 dX4_all_0 (by decide) ?_
  refine lv_istore_n (lv' := [(1, .int (0 : Int32)), (0, .ref (ad 10))]) hx hb0 dX4_all_1 rfl hl (by decide) rfl (fun ls hl => ?_)
  refine lv_iconst (v := (0 : Int32)) hx hb0 dX4_all_2 (by decide) ?_
  refine lv_istore_n (lv' := [(2, .int (0 : Int32)), (1, .int (0 : Int32)), (0, .ref (ad 10))]) hx hb0 dX4_all_3 rfl hl (by decide) rfl (fun ls hl => ?_)
  obtain ⟨n_4, hw⟩ := hw
  exact mX4_all_4 X post hret n_4 M L (0 : Int32) (0 : Int32) _ _ ls hw hW (lv_sub hl [2, 1, 0] rfl)
theorem kX4_all (l : Launch) (D : va_G) (cy : Nat → ClassId) (ad : Nat → Nat) (hi : zInj ad) : zMi l yX4_all (.code yX4_all cX4_all 3 (some .int) :: zG) rmX4_all D cy ad [.ref (ad 10)] (wpX4_all) :=
  zMi_of (by decide +kernel) (Nat.le_of_ble_eq_true rfl) hi (fun X M L post _ hret ls hl hw hW => mX4_all X post hret M L _ _ ls hw hW hl)
abbrev rmX4_chance : Room := { frames := 1, cells := 0, slots := 0, locals := 22 }
set_option maxRecDepth 20000 in
set_option maxHeartbeats 4000000 in
theorem mX4_chance_109 {p : Program} {l : Launch} {e : Env} {s : State} {m : MethodId} {args : Array Value} {below : List Frame} {meth : Method} {c : Code} {cells slots : Nat} {Q : State → Prop} {D : va_G} {cy : Nat → ClassId} {ad : Nat → Nat} {A : Nat → Prop} (X : zCx p rmX4_chance s m args c cells slots cX4_chance 7 RX4 D cy ad A) (post : Int64 → Mm → Ml → Prop) (hret : zRl p l e rmX4_chance s m args below meth c cells slots Q cX4_chance D cy ad A post) (K51 : Mm → Ml → Int32 → Int32 → Int32 → Int32 → Int32 → Prop) (hK51 : ∀ (M : Mm) (L : Ml) (v2 : Int32) (v3 : Int32) (v4 : Int32) (v5 : Int32) (v6 : Int32) (H : Heap) (locs : List Loc) (ls : Array Slot), K51 M L v2 v3 v4 v5 v6 → zWd D cy ad A s H locs M L → lv_has ls 7 [(2, .int v2), (3, .int v3), (4, .int v4), (5, .int v5), (6, .int v6)] → W p l e rmX4_chance s m args below meth c H locs cells slots Q (F0 m 51 ls [])) : ∀ (M : Mm) (L : Ml) (v2 : Int32) (v3 : Int32) (v4 : Int32) (v5 : Int32) (v6 : Int32) (H : Heap) (locs : List Loc) (ls : Array Slot), wpX4_chance_109 post K51 M L v2 v3 v4 v5 v6 → zWd D cy ad A s H locs M L → lv_has ls 7 [(2, .int v2), (3, .int v3), (4, .int v4), (5, .int v5), (6, .int v6)] → W p l e rmX4_chance s m args below meth c H locs cells slots Q (F0 m 109 ls []) := by
  have hx := X.1.1; have hb0 := X.1.2.1; have hts := X.1.2.2.2.2
  intro M L v2 v3 v4 v5 v6 H locs ls hw hW hl
  unfold wpX4_chance_109 at hw
  obtain ⟨a_109, e_109⟩ : ∃ y : Int32, y = v6 + (1 : Int32) := ⟨_, rfl⟩
  replace hw := hw a_109 e_109
  refine lv_iinc (v := a_109) (lv' := [(6, .int a_109), (2, .int v2), (3, .int v3), (4, .int v4), (5, .int v5)]) hx hb0 dX4_chance_109 hl (k := 4) rfl (by rw [e_109]; rfl) (by decide) rfl (fun ls hl => ?_)
  refine lv_goto (tgt := 51) hx hb0 dX4_chance_112 (by decide) ?_
  exact hK51 M L v2 v3 v4 v5 a_109 _ _ ls hw hW (lv_sub hl [1, 2, 3, 4, 0] rfl)
set_option maxRecDepth 20000 in
set_option maxHeartbeats 4000000 in
theorem mX4_chance_83 {p : Program} {l : Launch} {e : Env} {s : State} {m : MethodId} {args : Array Value} {below : List Frame} {meth : Method} {c : Code} {cells slots : Nat} {Q : State → Prop} {D : va_G} {cy : Nat → ClassId} {ad : Nat → Nat} {A : Nat → Prop} (X : zCx p rmX4_chance s m args c cells slots cX4_chance 7 RX4 D cy ad A) (post : Int64 → Mm → Ml → Prop) (hret : zRl p l e rmX4_chance s m args below meth c cells slots Q cX4_chance D cy ad A post) (K51 : Mm → Ml → Int32 → Int32 → Int32 → Int32 → Int32 → Prop) (hK51 : ∀ (M : Mm) (L : Ml) (v2 : Int32) (v3 : Int32) (v4 : Int32) (v5 : Int32) (v6 : Int32) (H : Heap) (locs : List Loc) (ls : Array Slot), K51 M L v2 v3 v4 v5 v6 → zWd D cy ad A s H locs M L → lv_has ls 7 [(2, .int v2), (3, .int v3), (4, .int v4), (5, .int v5), (6, .int v6)] → W p l e rmX4_chance s m args below meth c H locs cells slots Q (F0 m 51 ls [])) : ∀ (M : Mm) (L : Ml) (v2 : Int32) (v3 : Int32) (v4 : Int32) (v5 : Int32) (v6 : Int32) (H : Heap) (locs : List Loc) (ls : Array Slot), wpX4_chance_83 post K51 M L v2 v3 v4 v5 v6 → zWd D cy ad A s H locs M L → lv_has ls 7 [(2, .int v2), (3, .int v3), (4, .int v4), (5, .int v5), (6, .int v6)] → W p l e rmX4_chance s m args below meth c H locs cells slots Q (F0 m 83 ls []) := by
  have hx := X.1.1; have hb0 := X.1.2.1; have hts := X.1.2.2.2.2
  intro M L v2 v3 v4 v5 v6 H locs ls hw hW hl
  unfold wpX4_chance_83 at hw
  refine lv_iload hx hb0 dX4_chance_83 (lv_at hl 3 rfl) ?_
  refine lv_iconst (v := (5 : Int32)) hx hb0 dX4_chance_85 (by decide) ?_
  refine lv_irem hx hb0 dX4_chance_86 (by decide) ?_
  refine lv_if_ne (tgt := 109) hx hb0 dX4_chance_87 (by decide) (fun c_87 => ?_) (fun c_87 => ?_)
  · replace hw := hw.1 c_87
    exact mX4_chance_109 X post hret K51 hK51 M L v2 v3 v4 v5 v6 _ _ ls hw hW (lv_sub hl [0, 1, 2, 3, 4] rfl)
  · replace hw := hw.2 c_87
    refine lv_iload hx hb0 dX4_chance_90 (lv_at hl 2 rfl) ?_
    refine lv_iconst (v := (5 : Int32)) hx hb0 dX4_chance_92 (by decide) ?_
    refine lv_irem hx hb0 dX4_chance_93 (by decide) ?_
    refine lv_if_ne (tgt := 109) hx hb0 dX4_chance_94 (by decide) (fun c_94 => ?_) (fun c_94 => ?_)
    · replace hw := hw.1 c_94
      exact mX4_chance_109 X post hret K51 hK51 M L v2 v3 v4 v5 v6 _ _ ls hw hW (lv_sub hl [0, 1, 2, 3, 4] rfl)
    · replace hw := hw.2 c_94
      refine lv_iload hx hb0 dX4_chance_97 (lv_at hl 3 rfl) ?_
      refine lv_iconst (v := (5 : Int32)) hx hb0 dX4_chance_99 (by decide) ?_
      refine lv_idiv hx hb0 dX4_chance_100 (by decide) ?_
      refine lv_topi (fun a_101 e_101 => ?_)
      replace hw := hw a_101 e_101
      refine lv_istore (lv' := [(5, .int a_101), (2, .int v2), (3, .int v3), (4, .int v4), (6, .int v6)]) hx hb0 dX4_chance_101 hl (by decide) rfl (fun ls hl => ?_)
      refine lv_iload hx hb0 dX4_chance_103 (lv_at hl 3 rfl) ?_
      refine lv_iconst (v := (5 : Int32)) hx hb0 dX4_chance_105 (by decide) ?_
      refine lv_idiv hx hb0 dX4_chance_106 (by decide) ?_
      refine lv_topi (fun a_107 e_107 => ?_)
      replace hw := hw a_107 e_107
      refine lv_istore (lv' := [(4, .int a_107), (5, .int a_101), (2, .int v2), (3, .int v3), (6, .int v6)]) hx hb0 dX4_chance_107 hl (by decide) rfl (fun ls hl => ?_)
      exact mX4_chance_109 X post hret K51 hK51 M L v2 v3 a_107 a_101 v6 _ _ ls hw hW (lv_sub hl [2, 3, 0, 1, 4] rfl)
set_option maxRecDepth 20000 in
set_option maxHeartbeats 4000000 in
theorem mX4_chance_128 {p : Program} {l : Launch} {e : Env} {s : State} {m : MethodId} {args : Array Value} {below : List Frame} {meth : Method} {c : Code} {cells slots : Nat} {Q : State → Prop} {D : va_G} {cy : Nat → ClassId} {ad : Nat → Nat} {A : Nat → Prop} (X : zCx p rmX4_chance s m args c cells slots cX4_chance 7 RX4 D cy ad A) (post : Int64 → Mm → Ml → Prop) (hret : zRl p l e rmX4_chance s m args below meth c cells slots Q cX4_chance D cy ad A post) : ∀ (M : Mm) (L : Ml) (s0 : Int64) (H : Heap) (locs : List Loc) (ls : Array Slot), wpX4_chance_128 post M L s0 → zWd D cy ad A s H locs M L → lv_has ls 7 [] → W p l e rmX4_chance s m args below meth c H locs cells slots Q (F0 m 128 ls [.long s0]) := by
  have hx := X.1.1; have hb0 := X.1.2.1; have hts := X.1.2.2.2.2
  intro M L s0 H locs ls hw hW hl
  unfold wpX4_chance_128 at hw
  exact hret _ ls _ _ s0 M L dX4_chance_128 hw hW
set_option maxRecDepth 20000 in
set_option maxHeartbeats 4000000 in
theorem mX4_chance_51 {p : Program} {l : Launch} {e : Env} {s : State} {m : MethodId} {args : Array Value} {below : List Frame} {meth : Method} {c : Code} {cells slots : Nat} {Q : State → Prop} {D : va_G} {cy : Nat → ClassId} {ad : Nat → Nat} {A : Nat → Prop} (X : zCx p rmX4_chance s m args c cells slots cX4_chance 7 RX4 D cy ad A) (post : Int64 → Mm → Ml → Prop) (hret : zRl p l e rmX4_chance s m args below meth c cells slots Q cX4_chance D cy ad A post) : ∀ (j9 : Nat) (M : Mm) (L : Ml) (v2 : Int32) (v3 : Int32) (v4 : Int32) (v5 : Int32) (v6 : Int32) (H : Heap) (locs : List Loc) (ls : Array Slot), wlX4_chance_51 post j9 (M, L, v2, v3, v4, v5, v6) → zWd D cy ad A s H locs M L → lv_has ls 7 [(2, .int v2), (3, .int v3), (4, .int v4), (5, .int v5), (6, .int v6)] → W p l e rmX4_chance s m args below meth c H locs cells slots Q (F0 m 51 ls []) := by
  have hx := X.1.1; have hb0 := X.1.2.1; have hts := X.1.2.2.2.2
  intro j9
  induction j9 with
  | zero => intro M L v2 v3 v4 v5 v6 H locs ls hw; exact hw.elim
  | succ j9 ih =>
    obtain ⟨K51, hKe⟩ : ∃ K : Mm → Ml → Int32 → Int32 → Int32 → Int32 → Int32 → Prop, K = fun M L v2 v3 v4 v5 v6 => wlX4_chance_51 post j9 (M, L, v2, v3, v4, v5, v6) := ⟨_, rfl⟩
    have hK51 : ∀ (M : Mm) (L : Ml) (v2 : Int32) (v3 : Int32) (v4 : Int32) (v5 : Int32) (v6 : Int32) (H : Heap) (locs : List Loc) (ls : Array Slot), K51 M L v2 v3 v4 v5 v6 → zWd D cy ad A s H locs M L → lv_has ls 7 [(2, .int v2), (3, .int v3), (4, .int v4), (5, .int v5), (6, .int v6)] → W p l e rmX4_chance s m args below meth c H locs cells slots Q (F0 m 51 ls []) := by intro M L v2 v3 v4 v5 v6 H locs ls hw; rw [hKe] at hw; exact ih M L v2 v3 v4 v5 v6 H locs ls hw
    intro M L v2 v3 v4 v5 v6 H locs ls hw hW hl
    have hw : wpX4_chance_51 post K51 M L v2 v3 v4 v5 v6 := by rw [hKe]; exact hw
    clear ih
    unfold wpX4_chance_51 at hw
    refine lv_iload hx hb0 dX4_chance_51 (lv_at hl 4 rfl) ?_
    refine lv_iload_n hx hb0 dX4_chance_53 rfl (lv_at hl 0 rfl) ?_
    refine lv_icmp_ge (tgt := 115) hx hb0 dX4_chance_54 (by decide) (fun c_54 => ?_) (fun c_54 => ?_)
    · replace hw := hw.1 c_54
      refine lv_iload_n hx hb0 dX4_chance_115 rfl (lv_at hl 1 rfl) ?_
      refine lv_if_ne (tgt := 125) hx hb0 dX4_chance_116 (by decide) (fun c_116 => ?_) (fun c_116 => ?_)
      · replace hw := hw.1 c_116
        refine lv_iload hx hb0 dX4_chance_125 (lv_at hl 2 rfl) ?_
        refine lv_i2l hx hb0 dX4_chance_127 rfl ?_
        exact mX4_chance_128 X post hret M L (v4.toInt64) _ _ ls hw hW (lv_sub hl [] rfl)
      · replace hw := hw.2 c_116
        refine lv_iload hx hb0 dX4_chance_119 (lv_at hl 3 rfl) ?_
        refine lv_i2l hx hb0 dX4_chance_121 rfl ?_
        refine lv_goto (tgt := 128) hx hb0 dX4_chance_122 (by decide) ?_
        exact mX4_chance_128 X post hret M L (v5.toInt64) _ _ ls hw hW (lv_sub hl [] rfl)
    · replace hw := hw.2 c_54
      refine lv_iload hx hb0 dX4_chance_57 (lv_at hl 3 rfl) ?_
      refine lv_iconst (v := (2 : Int32)) hx hb0 dX4_chance_59 (by decide) ?_
      refine lv_irem hx hb0 dX4_chance_60 (by decide) ?_
      refine lv_if_ne (tgt := 83) hx hb0 dX4_chance_61 (by decide) (fun c_61 => ?_) (fun c_61 => ?_)
      · replace hw := hw.1 c_61
        exact mX4_chance_83 X post hret K51 hK51 M L v2 v3 v4 v5 v6 _ _ ls hw hW (lv_sub hl [0, 1, 2, 3, 4] rfl)
      · replace hw := hw.2 c_61
        refine lv_iload hx hb0 dX4_chance_64 (lv_at hl 2 rfl) ?_
        refine lv_iconst (v := (2 : Int32)) hx hb0 dX4_chance_66 (by decide) ?_
        refine lv_irem hx hb0 dX4_chance_67 (by decide) ?_
        refine lv_if_ne (tgt := 83) hx hb0 dX4_chance_68 (by decide) (fun c_68 => ?_) (fun c_68 => ?_)
        · replace hw := hw.1 c_68
          exact mX4_chance_83 X post hret K51 hK51 M L v2 v3 v4 v5 v6 _ _ ls hw hW (lv_sub hl [0, 1, 2, 3, 4] rfl)
        · replace hw := hw.2 c_68
          refine lv_iload hx hb0 dX4_chance_71 (lv_at hl 3 rfl) ?_
          refine lv_iconst (v := (2 : Int32)) hx hb0 dX4_chance_73 (by decide) ?_
          refine lv_idiv hx hb0 dX4_chance_74 (by decide) ?_
          refine lv_topi (fun a_75 e_75 => ?_)
          replace hw := hw a_75 e_75
          refine lv_istore (lv' := [(5, .int a_75), (2, .int v2), (3, .int v3), (4, .int v4), (6, .int v6)]) hx hb0 dX4_chance_75 hl (by decide) rfl (fun ls hl => ?_)
          refine lv_iload hx hb0 dX4_chance_77 (lv_at hl 3 rfl) ?_
          refine lv_iconst (v := (2 : Int32)) hx hb0 dX4_chance_79 (by decide) ?_
          refine lv_idiv hx hb0 dX4_chance_80 (by decide) ?_
          refine lv_topi (fun a_81 e_81 => ?_)
          replace hw := hw a_81 e_81
          refine lv_istore (lv' := [(4, .int a_81), (5, .int a_75), (2, .int v2), (3, .int v3), (6, .int v6)]) hx hb0 dX4_chance_81 hl (by decide) rfl (fun ls hl => ?_)
          exact mX4_chance_83 X post hret K51 hK51 M L v2 v3 a_81 a_75 v6 _ _ ls hw hW (lv_sub hl [2, 3, 0, 1, 4] rfl)
set_option maxRecDepth 20000 in
set_option maxHeartbeats 4000000 in
theorem mX4_chance_46 {p : Program} {l : Launch} {e : Env} {s : State} {m : MethodId} {args : Array Value} {below : List Frame} {meth : Method} {c : Code} {cells slots : Nat} {Q : State → Prop} {D : va_G} {cy : Nat → ClassId} {ad : Nat → Nat} {A : Nat → Prop} (X : zCx p rmX4_chance s m args c cells slots cX4_chance 7 RX4 D cy ad A) (post : Int64 → Mm → Ml → Prop) (hret : zRl p l e rmX4_chance s m args below meth c cells slots Q cX4_chance D cy ad A post) : ∀ (M : Mm) (L : Ml) (v2 : Int32) (v3 : Int32) (v4 : Int32) (s0 : Int32) (H : Heap) (locs : List Loc) (ls : Array Slot), wpX4_chance_46 post M L v2 v3 v4 s0 → zWd D cy ad A s H locs M L → lv_has ls 7 [(2, .int v2), (3, .int v3), (4, .int v4)] → W p l e rmX4_chance s m args below meth c H locs cells slots Q (F0 m 46 ls [.int s0]) := by
  have hx := X.1.1; have hb0 := X.1.2.1; have hts := X.1.2.2.2.2
  intro M L v2 v3 v4 s0 H locs ls hw hW hl
  unfold wpX4_chance_46 at hw
  refine lv_istore (lv' := [(5, .int s0), (2, .int v2), (3, .int v3), (4, .int v4)]) hx hb0 dX4_chance_46 hl (by decide) rfl (fun ls hl => ?_)
  refine lv_iconst (v := (0 : Int32)) hx hb0 dX4_chance_48 (by decide) ?_
  refine lv_istore (lv' := [(6, .int (0 : Int32)), (5, .int s0), (2, .int v2), (3, .int v3), (4, .int v4)]) hx hb0 dX4_chance_49 hl (by decide) rfl (fun ls hl => ?_)
  obtain ⟨n_51, hw⟩ := hw
  exact mX4_chance_51 X post hret n_51 M L v2 v3 v4 s0 (0 : Int32) _ _ ls hw hW (lv_sub hl [2, 3, 4, 1, 0] rfl)
set_option maxRecDepth 20000 in
set_option maxHeartbeats 4000000 in
theorem mX4_chance_6 {p : Program} {l : Launch} {e : Env} {s : State} {m : MethodId} {args : Array Value} {below : List Frame} {meth : Method} {c : Code} {cells slots : Nat} {Q : State → Prop} {D : va_G} {cy : Nat → ClassId} {ad : Nat → Nat} {A : Nat → Prop} (X : zCx p rmX4_chance s m args c cells slots cX4_chance 7 RX4 D cy ad A) (post : Int64 → Mm → Ml → Prop) (hret : zRl p l e rmX4_chance s m args below meth c cells slots Q cX4_chance D cy ad A post) : ∀ (j9 : Nat) (M : Mm) (L : Ml) (v1 : Int32) (v2 : Int32) (v3 : Int32) (v4 : Int32) (v5 : Int32) (H : Heap) (locs : List Loc) (ls : Array Slot), wlX4_chance_6 post j9 (M, L, v1, v2, v3, v4, v5) → zWd D cy ad A s H locs M L → lv_has ls 7 [(0, .ref (ad 10)), (1, .int v1), (2, .int v2), (3, .int v3), (4, .int v4), (5, .int v5)] → W p l e rmX4_chance s m args below meth c H locs cells slots Q (F0 m 6 ls []) := by
  have hx := X.1.1; have hb0 := X.1.2.1; have hts := X.1.2.2.2.2
  intro j9
  induction j9 with
  | zero => intro M L v1 v2 v3 v4 v5 H locs ls hw; exact hw.elim
  | succ j9 ih =>
    obtain ⟨K6, hKe⟩ : ∃ K : Mm → Ml → Int32 → Int32 → Int32 → Int32 → Int32 → Prop, K = fun M L v1 v2 v3 v4 v5 => wlX4_chance_6 post j9 (M, L, v1, v2, v3, v4, v5) := ⟨_, rfl⟩
    have hK6 : ∀ (M : Mm) (L : Ml) (v1 : Int32) (v2 : Int32) (v3 : Int32) (v4 : Int32) (v5 : Int32) (H : Heap) (locs : List Loc) (ls : Array Slot), K6 M L v1 v2 v3 v4 v5 → zWd D cy ad A s H locs M L → lv_has ls 7 [(0, .ref (ad 10)), (1, .int v1), (2, .int v2), (3, .int v3), (4, .int v4), (5, .int v5)] → W p l e rmX4_chance s m args below meth c H locs cells slots Q (F0 m 6 ls []) := by intro M L v1 v2 v3 v4 v5 H locs ls hw; rw [hKe] at hw; exact ih M L v1 v2 v3 v4 v5 H locs ls hw
    intro M L v1 v2 v3 v4 v5 H locs ls hw hW hl
    have hw : wpX4_chance_6 post K6 M L v1 v2 v3 v4 v5 := by rw [hKe]; exact hw
    clear ih
    unfold wpX4_chance_6 at hw
    refine lv_iload hx hb0 dX4_chance_6 (lv_at hl 5 rfl) ?_
    refine lv_iload_n hx hb0 dX4_chance_8 rfl (lv_at hl 2 rfl) ?_
    refine lv_icmp_ge (tgt := 25) hx hb0 dX4_chance_9 (by decide) (fun c_9 => ?_) (fun c_9 => ?_)
    · replace hw := hw.1 c_9
      refine lv_iload_n hx hb0 dX4_chance_25 rfl (lv_at hl 1 rfl) ?_
      refine lv_iconst (v := (-1 : Int32)) hx hb0 dX4_chance_26 (by decide) ?_
      refine lv_icmp_ne (tgt := 40) hx hb0 dX4_chance_27 (by decide) (fun c_27 => ?_) (fun c_27 => ?_)
      · replace hw := hw.1 c_27
        refine lv_aload_n hx hb0 dX4_chance_40 rfl (lv_at hl 0 rfl) ?_
        refine z_getR (k2 := 11) X hW zC2 zR_10_0 (by decide) rfl zl_X4_9 dX4_chance_41 ?_
        refine lv_iload_n hx hb0 dX4_chance_44 rfl (lv_at hl 1 rfl) ?_
        obtain ⟨g_45, hw⟩ := hw
        refine z_iald X hW zI_11 g_45 dX4_chance_45 ?_
        exact mX4_chance_46 X post hret M L v2 v3 v4 (M 11 v1.toNatClampNeg) _ _ ls hw hW (lv_sub hl [2, 3, 4] rfl)
      · replace hw := hw.2 c_27
        refine lv_iload hx hb0 dX4_chance_30 (lv_at hl 4 rfl) ?_
        refine lv_aload_n hx hb0 dX4_chance_32 rfl (lv_at hl 0 rfl) ?_
        refine z_Vi X zO_10 zC2 zc_X4_all zs_X4_all zl_X4_21 rfl ⟨rfl, rfl⟩ ⟨Nat.le_of_ble_eq_true rfl, Nat.le_of_ble_eq_true rfl⟩ (kX4_all l D cy ad X.2.2.2.1) hW hw hl.1 rfl rfl (Nat.le_of_ble_eq_true rfl) dX4_chance_33 (fun r_33 M_33 L_33 H_33 locs_33 hw hW => ?_)
        refine lv_isub hx hb0 dX4_chance_36 ?_
        refine lv_goto (tgt := 46) hx hb0 dX4_chance_37 (by decide) ?_
        exact mX4_chance_46 X post hret M_33 L_33 v2 v3 v4 (v4 - r_33) _ _ ls hw hW (lv_sub hl [2, 3, 4] rfl)
    · replace hw := hw.2 c_9
      refine lv_iload hx hb0 dX4_chance_12 (lv_at hl 4 rfl) ?_
      refine lv_bipush (v := (10 : Int32)) hx hb0 dX4_chance_14 (by decide) ?_
      refine lv_imul hx hb0 dX4_chance_16 ?_
      refine lv_topi (fun a_17 e_17 => ?_)
      replace hw := hw a_17 e_17
      refine lv_istore (lv' := [(4, .int a_17), (0, .ref (ad 10)), (1, .int v1), (2, .int v2), (3, .int v3), (5, .int v5)]) hx hb0 dX4_chance_17 hl (by decide) rfl (fun ls hl => ?_)
      obtain ⟨a_19, e_19⟩ : ∃ y : Int32, y = v5 + (1 : Int32) := ⟨_, rfl⟩
      replace hw := hw a_19 e_19
      refine lv_iinc (v := a_19) (lv' := [(5, .int a_19), (4, .int a_17), (0, .ref (ad 10)), (1, .int v1), (2, .int v2), (3, .int v3)]) hx hb0 dX4_chance_19 hl (k := 5) rfl (by rw [e_19]; rfl) (by decide) rfl (fun ls hl => ?_)
      refine lv_goto (tgt := 6) hx hb0 dX4_chance_22 (by decide) ?_
      exact hK6 M L v1 v2 v3 a_17 a_19 _ _ ls hw hW (lv_sub hl [2, 3, 4, 5, 1, 0] rfl)
set_option maxRecDepth 20000 in
set_option maxHeartbeats 4000000 in
theorem mX4_chance {p : Program} {l : Launch} {e : Env} {s : State} {m : MethodId} {args : Array Value} {below : List Frame} {meth : Method} {c : Code} {cells slots : Nat} {Q : State → Prop} {D : va_G} {cy : Nat → ClassId} {ad : Nat → Nat} {A : Nat → Prop} (X : zCx p rmX4_chance s m args c cells slots cX4_chance 7 RX4 D cy ad A) (post : Int64 → Mm → Ml → Prop) (hret : zRl p l e rmX4_chance s m args below meth c cells slots Q cX4_chance D cy ad A post) : ∀ (M : Mm) (L : Ml) (x1 : Int32) (x2 : Int32) (x3 : Int32) (H : Heap) (locs : List Loc) (ls : Array Slot), wpX4_chance x1 x2 x3 M L post → zWd D cy ad A s H locs M L → lv_has ls 7 [(0, .ref (ad 10)), (1, .int x1), (2, .int x2), (3, .int x3)] → W p l e rmX4_chance s m args below meth c H locs cells slots Q (F0 m 0 ls []) := by
  have hx := X.1.1; have hb0 := X.1.2.1; have hts := X.1.2.2.2.2
  intro M L x1 x2 x3 H locs ls hw hW hl
  unfold wpX4_chance at hw
  refine lv_iconst (v := (1 : Int32)) hx hb0 dX4_chance_0 (by decide) ?_
  refine lv_istore (lv' := [(4, .int (1 : Int32)), (0, .ref (ad 10)), (1, .int x1), (2, .int x2), (3, .int x3)]) hx hb0 dX4_chance_1 hl (by decide) rfl (fun ls hl => ?_)
  refine lv_iconst (v := (0 : Int32)) hx hb0 dX4_chance_3 (by decide) ?_
  refine lv_istore (lv' := [(5, .int (0 : Int32)), (4, .int (1 : Int32)), (0, .ref (ad 10)), (1, .int x1), (2, .int x2), (3, .int x3)]) hx hb0 dX4_chance_4 hl (by decide) rfl (fun ls hl => ?_)
  obtain ⟨n_6, hw⟩ := hw
  exact mX4_chance_6 X post hret n_6 M L x1 x2 x3 (1 : Int32) (0 : Int32) _ _ ls hw hW (lv_sub hl [2, 3, 4, 5, 1, 0] rfl)
theorem kX4_chance (l : Launch) (D : va_G) (cy : Nat → ClassId) (ad : Nat → Nat) (hi : zInj ad) (x1 : Int32) (x2 : Int32) (x3 : Int32) : zMl l yX4_chance (.code yX4_chance cX4_chance 7 (some .long) :: zG) rmX4_chance D cy ad [.ref (ad 10), .int x1, .int x2, .int x3] (wpX4_chance x1 x2 x3) :=
  zMl_of (by decide +kernel) (Nat.le_of_ble_eq_true rfl) hi (fun X M L post _ hret ls hl hw hW => mX4_chance X post hret M L x1 x2 x3 _ _ ls hw hW hl)
abbrev rmX5_add : Room := { frames := 0, cells := 0, slots := 0, locals := 0 }
set_option maxRecDepth 20000 in
set_option maxHeartbeats 4000000 in
theorem mX5_add {p : Program} {l : Launch} {e : Env} {s : State} {m : MethodId} {args : Array Value} {below : List Frame} {meth : Method} {c : Code} {cells slots : Nat} {Q : State → Prop} {D : va_G} {cy : Nat → ClassId} {ad : Nat → Nat} {A : Nat → Prop} (X : zCx p rmX5_add s m args c cells slots cX5_add 2 RX5 D cy ad A) (post : Int32 → Mm → Ml → Prop) (hret : zRi p l e rmX5_add s m args below meth c cells slots Q cX5_add D cy ad A .boolean post) : ∀ (M : Mm) (L : Ml) (x1 : Int32) (H : Heap) (locs : List Loc) (ls : Array Slot), wpX5_add x1 M L post → zWd D cy ad A s H locs M L → lv_has ls 2 [(0, .ref (ad 2)), (1, .int x1)] → W p l e rmX5_add s m args below meth c H locs cells slots Q (F0 m 0 ls []) := by
  have hx := X.1.1; have hb0 := X.1.2.1; have hts := X.1.2.2.2.2
  intro M L x1 H locs ls hw hW hl
  unfold wpX5_add at hw
  refine lv_aload_n hx hb0 dX5_add_0 rfl (lv_at hl 0 rfl) ?_
  refine z_getI X hW zC3 zF_2_1 (by decide) rfl zl_X5_15 dX5_add_1 ?_
  refine lv_bipush (v := (60 : Int32)) hx hb0 dX5_add_4 (by decide) ?_
  refine lv_icmp_lt (tgt := 11) hx hb0 dX5_add_6 (by decide) (fun c_6 => ?_) (fun c_6 => ?_)
  · replace hw := hw.1 c_6
    refine lv_aload_n hx hb0 dX5_add_11 rfl (lv_at hl 0 rfl) ?_
    refine z_getR (k2 := 3) X hW zC3 zR_2_0 (by decide) rfl zl_X5_11 dX5_add_12 ?_
    refine lv_aload_n hx hb0 dX5_add_15 rfl (lv_at hl 0 rfl) ?_
    refine z_getI X hW zC3 zF_2_1 (by decide) rfl zl_X5_15 dX5_add_16 ?_
    refine lv_iload_n hx hb0 dX5_add_19 rfl (lv_at hl 1 rfl) ?_
    obtain ⟨g_20, hw⟩ := hw
    refine z_iast X hW zI_3 g_20 dX5_add_20 (fun M_20 H_20 locs_20 e_20 hW => ?_)
    replace hw := hw M_20 e_20
    refine lv_aload_n hx hb0 dX5_add_21 rfl (lv_at hl 0 rfl) ?_
    refine lv_dup hx hb0 dX5_add_22 rfl ?_
    refine z_getI X hW zC3 zF_2_1 (by decide) rfl zl_X5_15 dX5_add_23 ?_
    refine lv_iconst (v := (1 : Int32)) hx hb0 dX5_add_26 (by decide) ?_
    refine lv_iadd hx hb0 dX5_add_27 ?_
    refine z_put (ty := .int) X hW zC3 zF_2_1 (by decide) rfl zl_X5_15 rfl (by decide +kernel) rfl rfl dX5_add_28 (fun M_28 H_28 locs_28 e_28 hW => ?_)
    replace hw := hw M_28 e_28
    refine lv_iconst (v := (1 : Int32)) hx hb0 dX5_add_31 (by decide) ?_
    exact hret _ ls _ _ (1 : Int32) M_28 L dX5_add_32 rfl hw hW
  · replace hw := hw.2 c_6
    refine lv_iconst (v := (0 : Int32)) hx hb0 dX5_add_9 (by decide) ?_
    exact hret _ ls _ _ (0 : Int32) M L dX5_add_10 rfl hw hW
theorem kX5_add (l : Launch) (D : va_G) (cy : Nat → ClassId) (ad : Nat → Nat) (hi : zInj ad) (x1 : Int32) : zMi l yX5_add (.code yX5_add cX5_add 2 (some .boolean) :: zG) rmX5_add D cy ad [.ref (ad 2), .int x1] (wpX5_add x1) :=
  zMi_of (by decide +kernel) (Nat.le_of_ble_eq_true rfl) hi (fun X M L post _ hret ls hl hw hW => mX5_add X post hret M L x1 _ _ ls hw hW hl)
abbrev rmX5_deedOf : Room := { frames := 0, cells := 0, slots := 0, locals := 0 }
set_option maxRecDepth 20000 in
set_option maxHeartbeats 4000000 in
theorem mX5_deedOf {p : Program} {l : Launch} {e : Env} {s : State} {m : MethodId} {args : Array Value} {below : List Frame} {meth : Method} {c : Code} {cells slots : Nat} {Q : State → Prop} {D : va_G} {cy : Nat → ClassId} {ad : Nat → Nat} {A : Nat → Prop} (X : zCx p rmX5_deedOf s m args c cells slots cX5_deedOf 1 RX5 D cy ad A) (post : Int32 → Mm → Ml → Prop) (hret : zRi p l e rmX5_deedOf s m args below meth c cells slots Q cX5_deedOf D cy ad A .int post) : ∀ (M : Mm) (L : Ml) (x1 : Int32) (H : Heap) (locs : List Loc) (ls : Array Slot), wpX5_deedOf x1 M L post → zWd D cy ad A s H locs M L → lv_has ls 1 [(0, .int x1)] → W p l e rmX5_deedOf s m args below meth c H locs cells slots Q (F0 m 0 ls []) := by
  have hx := X.1.1; have hb0 := X.1.2.1; have hts := X.1.2.2.2.2
  intro M L x1 H locs ls hw hW hl
  unfold wpX5_deedOf at hw
  refine lv_iload_n hx hb0 dX5_deedOf_0 rfl (lv_at hl 0 rfl) ?_
  by_cases c_1_0 : x1 = (60 : Int32)
  · replace hw := hw.1 c_1_0
    refine lv_lookup (tgt := 36) (off := 35) hx hb0 dX5_deedOf_1 rfl (by rw [c_1_0]; rfl) (by decide) ?_
    refine lv_iconst (v := (5 : Int32)) hx hb0 dX5_deedOf_36 (by decide) ?_
    exact hret _ ls _ _ (5 : Int32) M L dX5_deedOf_37 rfl hw hW
  · replace hw := hw.2 c_1_0
    by_cases c_1_1 : x1 = (62 : Int32)
    · replace hw := hw.1 c_1_1
      refine lv_lookup (tgt := 38) (off := 37) hx hb0 dX5_deedOf_1 rfl (by rw [c_1_1]; rfl) (by decide) ?_
      refine lv_bipush (v := (6 : Int32)) hx hb0 dX5_deedOf_38 (by decide) ?_
      exact hret _ ls _ _ (6 : Int32) M L dX5_deedOf_40 rfl hw hW
    · replace hw := hw.2 c_1_1
      by_cases c_1_2 : x1 = (117 : Int32)
      · replace hw := hw.1 c_1_2
        refine lv_lookup (tgt := 41) (off := 40) hx hb0 dX5_deedOf_1 rfl (by rw [c_1_2]; rfl) (by decide) ?_
        refine lv_bipush (v := (7 : Int32)) hx hb0 dX5_deedOf_41 (by decide) ?_
        exact hret _ ls _ _ (7 : Int32) M L dX5_deedOf_43 rfl hw hW
      · replace hw := hw.2 c_1_2
        refine lv_lookup (tgt := 44) (off := 43) hx hb0 dX5_deedOf_1 rfl (by show Op.lookupswitch.offset [(60, 35), (62, 37), (117, 40)] 43 x1.toInt = _; rw [lv_osw c_1_0 (by decide), lv_osw c_1_1 (by decide), lv_osw c_1_2 (by decide)]; rfl) (by decide) ?_
        refine lv_bipush (v := (-6 : Int32)) hx hb0 dX5_deedOf_44 (by decide) ?_
        exact hret _ ls _ _ (-6 : Int32) M L dX5_deedOf_46 rfl hw hW
theorem kX5_deedOf (l : Launch) (D : va_G) (cy : Nat → ClassId) (ad : Nat → Nat) (hi : zInj ad) (x1 : Int32) : zMi l yX5_deedOf (.code yX5_deedOf cX5_deedOf 1 (some .int) :: zG) rmX5_deedOf D cy ad [.int x1] (wpX5_deedOf x1) :=
  zMi_of (by decide +kernel) (Nat.le_of_ble_eq_true rfl) hi (fun X M L post _ hret ls hl hw hW => mX5_deedOf X post hret M L x1 _ _ ls hw hW hl)
abbrev rmX5_oneOf : Room := { frames := 0, cells := 0, slots := 0, locals := 0 }
set_option maxRecDepth 20000 in
set_option maxHeartbeats 4000000 in
theorem mX5_oneOf_21 {p : Program} {l : Launch} {e : Env} {s : State} {m : MethodId} {args : Array Value} {below : List Frame} {meth : Method} {c : Code} {cells slots : Nat} {Q : State → Prop} {D : va_G} {cy : Nat → ClassId} {ad : Nat → Nat} {A : Nat → Prop} (X : zCx p rmX5_oneOf s m args c cells slots cX5_oneOf 1 RX5 D cy ad A) (post : Int32 → Mm → Ml → Prop) (hret : zRi p l e rmX5_oneOf s m args below meth c cells slots Q cX5_oneOf D cy ad A .int post) : ∀ (M : Mm) (L : Ml) (s0 : Int32) (H : Heap) (locs : List Loc) (ls : Array Slot), wpX5_oneOf_21 post M L s0 → zWd D cy ad A s H locs M L → lv_has ls 1 [] → W p l e rmX5_oneOf s m args below meth c H locs cells slots Q (F0 m 21 ls [.int s0]) := by
  have hx := X.1.1; have hb0 := X.1.2.1; have hts := X.1.2.2.2.2
  intro M L s0 H locs ls hw hW hl
  unfold wpX5_oneOf_21 at hw
  exact hret _ ls _ _ s0 M L dX5_oneOf_21 rfl hw hW
set_option maxRecDepth 20000 in
set_option maxHeartbeats 4000000 in
theorem mX5_oneOf_19 {p : Program} {l : Launch} {e : Env} {s : State} {m : MethodId} {args : Array Value} {below : List Frame} {meth : Method} {c : Code} {cells slots : Nat} {Q : State → Prop} {D : va_G} {cy : Nat → ClassId} {ad : Nat → Nat} {A : Nat → Prop} (X : zCx p rmX5_oneOf s m args c cells slots cX5_oneOf 1 RX5 D cy ad A) (post : Int32 → Mm → Ml → Prop) (hret : zRi p l e rmX5_oneOf s m args below meth c cells slots Q cX5_oneOf D cy ad A .int post) : ∀ (M : Mm) (L : Ml) (H : Heap) (locs : List Loc) (ls : Array Slot), wpX5_oneOf_19 post M L → zWd D cy ad A s H locs M L → lv_has ls 1 [] → W p l e rmX5_oneOf s m args below meth c H locs cells slots Q (F0 m 19 ls []) := by
  have hx := X.1.1; have hb0 := X.1.2.1; have hts := X.1.2.2.2.2
  intro M L H locs ls hw hW hl
  unfold wpX5_oneOf_19 at hw
  refine lv_bipush (v := (-6 : Int32)) hx hb0 dX5_oneOf_19 (by decide) ?_
  exact mX5_oneOf_21 X post hret M L (-6 : Int32) _ _ ls hw hW (lv_sub hl [] rfl)
set_option maxRecDepth 20000 in
set_option maxHeartbeats 4000000 in
theorem mX5_oneOf {p : Program} {l : Launch} {e : Env} {s : State} {m : MethodId} {args : Array Value} {below : List Frame} {meth : Method} {c : Code} {cells slots : Nat} {Q : State → Prop} {D : va_G} {cy : Nat → ClassId} {ad : Nat → Nat} {A : Nat → Prop} (X : zCx p rmX5_oneOf s m args c cells slots cX5_oneOf 1 RX5 D cy ad A) (post : Int32 → Mm → Ml → Prop) (hret : zRi p l e rmX5_oneOf s m args below meth c cells slots Q cX5_oneOf D cy ad A .int post) : ∀ (M : Mm) (L : Ml) (x1 : Int32) (H : Heap) (locs : List Loc) (ls : Array Slot), wpX5_oneOf x1 M L post → zWd D cy ad A s H locs M L → lv_has ls 1 [(0, .int x1)] → W p l e rmX5_oneOf s m args below meth c H locs cells slots Q (F0 m 0 ls []) := by
  have hx := X.1.1; have hb0 := X.1.2.1; have hts := X.1.2.2.2.2
  intro M L x1 H locs ls hw hW hl
  unfold wpX5_oneOf at hw
  refine lv_iload_n hx hb0 dX5_oneOf_0 rfl (lv_at hl 0 rfl) ?_
  refine lv_bipush (v := (65 : Int32)) hx hb0 dX5_oneOf_1 (by decide) ?_
  refine lv_icmp_lt (tgt := 19) hx hb0 dX5_oneOf_3 (by decide) (fun c_3 => ?_) (fun c_3 => ?_)
  · replace hw := hw.1 c_3
    exact mX5_oneOf_19 X post hret M L _ _ ls hw hW (lv_sub hl [] rfl)
  · replace hw := hw.2 c_3
    refine lv_iload_n hx hb0 dX5_oneOf_6 rfl (lv_at hl 0 rfl) ?_
    refine lv_bipush (v := (71 : Int32)) hx hb0 dX5_oneOf_7 (by decide) ?_
    refine lv_icmp_ge (tgt := 19) hx hb0 dX5_oneOf_9 (by decide) (fun c_9 => ?_) (fun c_9 => ?_)
    · replace hw := hw.1 c_9
      exact mX5_oneOf_19 X post hret M L _ _ ls hw hW (lv_sub hl [] rfl)
    · replace hw := hw.2 c_9
      refine lv_iload_n hx hb0 dX5_oneOf_12 rfl (lv_at hl 0 rfl) ?_
      refine lv_bipush (v := (65 : Int32)) hx hb0 dX5_oneOf_13 (by decide) ?_
      refine lv_isub hx hb0 dX5_oneOf_15 ?_
      refine lv_goto (tgt := 21) hx hb0 dX5_oneOf_16 (by decide) ?_
      exact mX5_oneOf_21 X post hret M L (x1 - (65 : Int32)) _ _ ls hw hW (lv_sub hl [] rfl)
theorem kX5_oneOf (l : Launch) (D : va_G) (cy : Nat → ClassId) (ad : Nat → Nat) (hi : zInj ad) (x1 : Int32) : zMi l yX5_oneOf (.code yX5_oneOf cX5_oneOf 1 (some .int) :: zG) rmX5_oneOf D cy ad [.int x1] (wpX5_oneOf x1) :=
  zMi_of (by decide +kernel) (Nat.le_of_ble_eq_true rfl) hi (fun X M L post _ hret ls hl hw hW => mX5_oneOf X post hret M L x1 _ _ ls hw hW hl)
abbrev rmX5_weatherOf : Room := { frames := 0, cells := 0, slots := 0, locals := 0 }
set_option maxRecDepth 20000 in
set_option maxHeartbeats 4000000 in
theorem mX5_weatherOf {p : Program} {l : Launch} {e : Env} {s : State} {m : MethodId} {args : Array Value} {below : List Frame} {meth : Method} {c : Code} {cells slots : Nat} {Q : State → Prop} {D : va_G} {cy : Nat → ClassId} {ad : Nat → Nat} {A : Nat → Prop} (X : zCx p rmX5_weatherOf s m args c cells slots cX5_weatherOf 1 RX5 D cy ad A) (post : Int32 → Mm → Ml → Prop) (hret : zRi p l e rmX5_weatherOf s m args below meth c cells slots Q cX5_weatherOf D cy ad A .int post) : ∀ (M : Mm) (L : Ml) (x1 : Int32) (H : Heap) (locs : List Loc) (ls : Array Slot), wpX5_weatherOf x1 M L post → zWd D cy ad A s H locs M L → lv_has ls 1 [(0, .int x1)] → W p l e rmX5_weatherOf s m args below meth c H locs cells slots Q (F0 m 0 ls []) := by
  have hx := X.1.1; have hb0 := X.1.2.1; have hts := X.1.2.2.2.2
  intro M L x1 H locs ls hw hW hl
  unfold wpX5_weatherOf at hw
  refine lv_iload_n hx hb0 dX5_weatherOf_0 rfl (lv_at hl 0 rfl) ?_
  by_cases c_1_0 : x1 = (46 : Int32)
  · replace hw := hw.1 c_1_0
    refine lv_lookup (tgt := 60) (off := 59) hx hb0 dX5_weatherOf_1 rfl (by rw [c_1_0]; rfl) (by decide) ?_
    refine lv_iconst (v := (4 : Int32)) hx hb0 dX5_weatherOf_60 (by decide) ?_
    exact hret _ ls _ _ (4 : Int32) M L dX5_weatherOf_61 rfl hw hW
  · replace hw := hw.2 c_1_0
    by_cases c_1_1 : x1 = (60 : Int32)
    · replace hw := hw.1 c_1_1
      refine lv_lookup (tgt := 56) (off := 55) hx hb0 dX5_weatherOf_1 rfl (by rw [c_1_1]; rfl) (by decide) ?_
      refine lv_iconst (v := (2 : Int32)) hx hb0 dX5_weatherOf_56 (by decide) ?_
      exact hret _ ls _ _ (2 : Int32) M L dX5_weatherOf_57 rfl hw hW
    · replace hw := hw.2 c_1_1
      by_cases c_1_2 : x1 = (62 : Int32)
      · replace hw := hw.1 c_1_2
        refine lv_lookup (tgt := 58) (off := 57) hx hb0 dX5_weatherOf_1 rfl (by rw [c_1_2]; rfl) (by decide) ?_
        refine lv_iconst (v := (3 : Int32)) hx hb0 dX5_weatherOf_58 (by decide) ?_
        exact hret _ ls _ _ (3 : Int32) M L dX5_weatherOf_59 rfl hw hW
      · replace hw := hw.2 c_1_2
        by_cases c_1_3 : x1 = (99 : Int32)
        · replace hw := hw.1 c_1_3
          refine lv_lookup (tgt := 52) (off := 51) hx hb0 dX5_weatherOf_1 rfl (by rw [c_1_3]; rfl) (by decide) ?_
          refine lv_iconst (v := (0 : Int32)) hx hb0 dX5_weatherOf_52 (by decide) ?_
          exact hret _ ls _ _ (0 : Int32) M L dX5_weatherOf_53 rfl hw hW
        · replace hw := hw.2 c_1_3
          by_cases c_1_4 : x1 = (100 : Int32)
          · replace hw := hw.1 c_1_4
            refine lv_lookup (tgt := 54) (off := 53) hx hb0 dX5_weatherOf_1 rfl (by rw [c_1_4]; rfl) (by decide) ?_
            refine lv_iconst (v := (1 : Int32)) hx hb0 dX5_weatherOf_54 (by decide) ?_
            exact hret _ ls _ _ (1 : Int32) M L dX5_weatherOf_55 rfl hw hW
          · replace hw := hw.2 c_1_4
            refine lv_lookup (tgt := 62) (off := 61) hx hb0 dX5_weatherOf_1 rfl (by show Op.lookupswitch.offset [(46, 59), (60, 55), (62, 57), (99, 51), (100, 53)] 61 x1.toInt = _; rw [lv_osw c_1_0 (by decide), lv_osw c_1_1 (by decide), lv_osw c_1_2 (by decide), lv_osw c_1_3 (by decide), lv_osw c_1_4 (by decide)]; rfl) (by decide) ?_
            refine lv_bipush (v := (-6 : Int32)) hx hb0 dX5_weatherOf_62 (by decide) ?_
            exact hret _ ls _ _ (-6 : Int32) M L dX5_weatherOf_64 rfl hw hW
theorem kX5_weatherOf (l : Launch) (D : va_G) (cy : Nat → ClassId) (ad : Nat → Nat) (hi : zInj ad) (x1 : Int32) : zMi l yX5_weatherOf (.code yX5_weatherOf cX5_weatherOf 1 (some .int) :: zG) rmX5_weatherOf D cy ad [.int x1] (wpX5_weatherOf x1) :=
  zMi_of (by decide +kernel) (Nat.le_of_ble_eq_true rfl) hi (fun X M L post _ hret ls hl hw hW => mX5_weatherOf X post hret M L x1 _ _ ls hw hW hl)
abbrev rmX5_readActs : Room := { frames := 1, cells := 0, slots := 0, locals := 20 }
set_option maxRecDepth 20000 in
set_option maxHeartbeats 4000000 in
theorem mX5_readActs_120 {p : Program} {l : Launch} {e : Env} {s : State} {m : MethodId} {args : Array Value} {below : List Frame} {meth : Method} {c : Code} {cells slots : Nat} {Q : State → Prop} {D : va_G} {cy : Nat → ClassId} {ad : Nat → Nat} {A : Nat → Prop} (X : zCx p rmX5_readActs s m args c cells slots cX5_readActs 4 RX5 D cy ad A) (post : Int32 → Mm → Ml → Prop) (hret : zRi p l e rmX5_readActs s m args below meth c cells slots Q cX5_readActs D cy ad A .int post) (K10 : Mm → Ml → Int32 → Int32 → Prop) (hK10 : ∀ (M : Mm) (L : Ml) (v1 : Int32) (v2 : Int32) (H : Heap) (locs : List Loc) (ls : Array Slot), K10 M L v1 v2 → zWd D cy ad A s H locs M L → lv_has ls 4 [(0, .ref (ad 2)), (1, .int v1), (2, .int v2)] → W p l e rmX5_readActs s m args below meth c H locs cells slots Q (F0 m 10 ls [])) : ∀ (M : Mm) (L : Ml) (v1 : Int32) (v2 : Int32) (H : Heap) (locs : List Loc) (ls : Array Slot), wpX5_readActs_120 post K10 M L v1 v2 → zWd D cy ad A s H locs M L → lv_has ls 4 [(0, .ref (ad 2)), (1, .int v1), (2, .int v2)] → W p l e rmX5_readActs s m args below meth c H locs cells slots Q (F0 m 120 ls []) := by
  have hx := X.1.1; have hb0 := X.1.2.1; have hts := X.1.2.2.2.2
  intro M L v1 v2 H locs ls hw hW hl
  unfold wpX5_readActs_120 at hw
  obtain ⟨a_120, e_120⟩ : ∃ y : Int32, y = v2 + (1 : Int32) := ⟨_, rfl⟩
  replace hw := hw a_120 e_120
  refine lv_iinc (v := a_120) (lv' := [(2, .int a_120), (0, .ref (ad 2)), (1, .int v1)]) hx hb0 dX5_readActs_120 hl (k := 2) rfl (by rw [e_120]; rfl) (by decide) rfl (fun ls hl => ?_)
  refine lv_goto (tgt := 10) hx hb0 dX5_readActs_123 (by decide) ?_
  exact hK10 M L v1 a_120 _ _ ls hw hW (lv_sub hl [1, 2, 0] rfl)
set_option maxRecDepth 20000 in
set_option maxHeartbeats 4000000 in
theorem mX5_readActs_78 {p : Program} {l : Launch} {e : Env} {s : State} {m : MethodId} {args : Array Value} {below : List Frame} {meth : Method} {c : Code} {cells slots : Nat} {Q : State → Prop} {D : va_G} {cy : Nat → ClassId} {ad : Nat → Nat} {A : Nat → Prop} (X : zCx p rmX5_readActs s m args c cells slots cX5_readActs 4 RX5 D cy ad A) (post : Int32 → Mm → Ml → Prop) (hret : zRi p l e rmX5_readActs s m args below meth c cells slots Q cX5_readActs D cy ad A .int post) (K10 : Mm → Ml → Int32 → Int32 → Prop) (hK10 : ∀ (M : Mm) (L : Ml) (v1 : Int32) (v2 : Int32) (H : Heap) (locs : List Loc) (ls : Array Slot), K10 M L v1 v2 → zWd D cy ad A s H locs M L → lv_has ls 4 [(0, .ref (ad 2)), (1, .int v1), (2, .int v2)] → W p l e rmX5_readActs s m args below meth c H locs cells slots Q (F0 m 10 ls [])) : ∀ (M : Mm) (L : Ml) (v1 : Int32) (v2 : Int32) (s0 : Int32) (H : Heap) (locs : List Loc) (ls : Array Slot), wpX5_readActs_78 post K10 M L v1 v2 s0 → zWd D cy ad A s H locs M L → lv_has ls 4 [(0, .ref (ad 2)), (1, .int v1), (2, .int v2)] → W p l e rmX5_readActs s m args below meth c H locs cells slots Q (F0 m 78 ls [.int s0]) := by
  have hx := X.1.1; have hb0 := X.1.2.1; have hts := X.1.2.2.2.2
  intro M L v1 v2 s0 H locs ls hw hW hl
  unfold wpX5_readActs_78 at hw
  refine lv_istore_n (lv' := [(3, .int s0), (0, .ref (ad 2)), (1, .int v1), (2, .int v2)]) hx hb0 dX5_readActs_78 rfl hl (by decide) rfl (fun ls hl => ?_)
  refine lv_iload_n hx hb0 dX5_readActs_79 rfl (lv_at hl 0 rfl) ?_
  refine lv_bipush (v := (-6 : Int32)) hx hb0 dX5_readActs_80 (by decide) ?_
  refine lv_icmp_ne (tgt := 87) hx hb0 dX5_readActs_82 (by decide) (fun c_82 => ?_) (fun c_82 => ?_)
  · replace hw := hw.1 c_82
    refine lv_aload_n hx hb0 dX5_readActs_87 rfl (lv_at hl 1 rfl) ?_
    refine z_getR (k2 := 4) X hW zC3 zR_2_2 (by decide) rfl zl_X5_19 dX5_readActs_88 ?_
    refine lv_aload_n hx hb0 dX5_readActs_91 rfl (lv_at hl 1 rfl) ?_
    refine z_getI X hW zC3 zF_2_4 (by decide) rfl zl_X5_25 dX5_readActs_92 ?_
    refine lv_iload_n hx hb0 dX5_readActs_95 rfl (lv_at hl 0 rfl) ?_
    obtain ⟨g_96, hw⟩ := hw
    refine z_iast X hW zI_4 g_96 dX5_readActs_96 (fun M_96 H_96 locs_96 e_96 hW => ?_)
    replace hw := hw M_96 e_96
    refine lv_aload_n hx hb0 dX5_readActs_97 rfl (lv_at hl 1 rfl) ?_
    refine z_getR (k2 := 5) X hW zC3 zR_2_3 (by decide) rfl zl_X5_22 dX5_readActs_98 ?_
    refine lv_aload_n hx hb0 dX5_readActs_101 rfl (lv_at hl 1 rfl) ?_
    refine z_getI X hW zC3 zF_2_4 (by decide) rfl zl_X5_25 dX5_readActs_102 ?_
    refine lv_iload_n hx hb0 dX5_readActs_105 rfl (lv_at hl 2 rfl) ?_
    obtain ⟨g_106, hw⟩ := hw
    refine z_iast X hW zI_5 g_106 dX5_readActs_106 (fun M_106 H_106 locs_106 e_106 hW => ?_)
    replace hw := hw M_106 e_106
    refine lv_aload_n hx hb0 dX5_readActs_107 rfl (lv_at hl 1 rfl) ?_
    refine lv_dup hx hb0 dX5_readActs_108 rfl ?_
    refine z_getI X hW zC3 zF_2_4 (by decide) rfl zl_X5_25 dX5_readActs_109 ?_
    refine lv_iconst (v := (1 : Int32)) hx hb0 dX5_readActs_112 (by decide) ?_
    refine lv_iadd hx hb0 dX5_readActs_113 ?_
    refine z_put (ty := .int) X hW zC3 zF_2_4 (by decide) rfl zl_X5_25 rfl (by decide +kernel) rfl rfl dX5_readActs_114 (fun M_114 H_114 locs_114 e_114 hW => ?_)
    replace hw := hw M_114 e_114
    refine lv_bipush (v := (-6 : Int32)) hx hb0 dX5_readActs_117 (by decide) ?_
    refine lv_istore_n (lv' := [(1, .int (-6 : Int32)), (3, .int s0), (0, .ref (ad 2)), (2, .int v2)]) hx hb0 dX5_readActs_119 rfl hl (by decide) rfl (fun ls hl => ?_)
    exact mX5_readActs_120 X post hret K10 hK10 M_114 L (-6 : Int32) v2 _ _ ls hw hW (lv_sub hl [2, 0, 3] rfl)
  · replace hw := hw.2 c_82
    refine lv_iload_n hx hb0 dX5_readActs_85 rfl (lv_at hl 3 rfl) ?_
    exact hret _ ls _ _ v2 M L dX5_readActs_86 rfl hw hW
set_option maxRecDepth 20000 in
set_option maxHeartbeats 4000000 in
theorem mX5_readActs_51 {p : Program} {l : Launch} {e : Env} {s : State} {m : MethodId} {args : Array Value} {below : List Frame} {meth : Method} {c : Code} {cells slots : Nat} {Q : State → Prop} {D : va_G} {cy : Nat → ClassId} {ad : Nat → Nat} {A : Nat → Prop} (X : zCx p rmX5_readActs s m args c cells slots cX5_readActs 4 RX5 D cy ad A) (post : Int32 → Mm → Ml → Prop) (hret : zRi p l e rmX5_readActs s m args below meth c cells slots Q cX5_readActs D cy ad A .int post) (K10 : Mm → Ml → Int32 → Int32 → Prop) (hK10 : ∀ (M : Mm) (L : Ml) (v1 : Int32) (v2 : Int32) (H : Heap) (locs : List Loc) (ls : Array Slot), K10 M L v1 v2 → zWd D cy ad A s H locs M L → lv_has ls 4 [(0, .ref (ad 2)), (1, .int v1), (2, .int v2)] → W p l e rmX5_readActs s m args below meth c H locs cells slots Q (F0 m 10 ls [])) : ∀ (M : Mm) (L : Ml) (v1 : Int32) (v2 : Int32) (H : Heap) (locs : List Loc) (ls : Array Slot), wpX5_readActs_51 post K10 M L v1 v2 → zWd D cy ad A s H locs M L → lv_has ls 4 [(0, .ref (ad 2)), (1, .int v1), (2, .int v2)] → W p l e rmX5_readActs s m args below meth c H locs cells slots Q (F0 m 51 ls []) := by
  have hx := X.1.1; have hb0 := X.1.2.1; have hts := X.1.2.2.2.2
  intro M L v1 v2 H locs ls hw hW hl
  unfold wpX5_readActs_51 at hw
  refine lv_iload_n hx hb0 dX5_readActs_51 rfl (lv_at hl 1 rfl) ?_
  refine lv_bipush (v := (-6 : Int32)) hx hb0 dX5_readActs_52 (by decide) ?_
  refine lv_icmp_ne (tgt := 69) hx hb0 dX5_readActs_54 (by decide) (fun c_54 => ?_) (fun c_54 => ?_)
  · replace hw := hw.1 c_54
    refine lv_aload_n hx hb0 dX5_readActs_69 rfl (lv_at hl 0 rfl) ?_
    refine z_getR (k2 := 3) X hW zC3 zR_2_0 (by decide) rfl zl_X5_11 dX5_readActs_70 ?_
    refine lv_iload_n hx hb0 dX5_readActs_73 rfl (lv_at hl 2 rfl) ?_
    obtain ⟨g_74, hw⟩ := hw
    refine z_iald X hW zI_3 g_74 dX5_readActs_74 ?_
    refine z_Si X zc_X5_deedOf zt_X5_deedOf zl_X5_35 rfl ⟨rfl, rfl⟩ ⟨Nat.le_of_ble_eq_true rfl, Nat.le_of_ble_eq_true rfl⟩ (kX5_deedOf l D cy ad X.2.2.2.1 (M 3 v2.toNatClampNeg)) hW hw hl.1 rfl rfl (Nat.le_of_ble_eq_true rfl) dX5_readActs_75 (fun r_75 M_75 L_75 H_75 locs_75 hw hW => ?_)
    exact mX5_readActs_78 X post hret K10 hK10 M_75 L_75 v1 v2 r_75 _ _ ls hw hW (lv_sub hl [0, 1, 2] rfl)
  · replace hw := hw.2 c_54
    refine lv_aload_n hx hb0 dX5_readActs_57 rfl (lv_at hl 0 rfl) ?_
    refine z_getR (k2 := 3) X hW zC3 zR_2_0 (by decide) rfl zl_X5_11 dX5_readActs_58 ?_
    refine lv_iload_n hx hb0 dX5_readActs_61 rfl (lv_at hl 2 rfl) ?_
    obtain ⟨g_62, hw⟩ := hw
    refine z_iald X hW zI_3 g_62 dX5_readActs_62 ?_
    refine z_Si X zc_X5_weatherOf zt_X5_weatherOf zl_X5_32 rfl ⟨rfl, rfl⟩ ⟨Nat.le_of_ble_eq_true rfl, Nat.le_of_ble_eq_true rfl⟩ (kX5_weatherOf l D cy ad X.2.2.2.1 (M 3 v2.toNatClampNeg)) hW hw hl.1 rfl rfl (Nat.le_of_ble_eq_true rfl) dX5_readActs_63 (fun r_63 M_63 L_63 H_63 locs_63 hw hW => ?_)
    refine lv_goto (tgt := 78) hx hb0 dX5_readActs_66 (by decide) ?_
    exact mX5_readActs_78 X post hret K10 hK10 M_63 L_63 v1 v2 r_63 _ _ ls hw hW (lv_sub hl [0, 1, 2] rfl)
set_option maxRecDepth 20000 in
set_option maxHeartbeats 4000000 in
theorem mX5_readActs_141 {p : Program} {l : Launch} {e : Env} {s : State} {m : MethodId} {args : Array Value} {below : List Frame} {meth : Method} {c : Code} {cells slots : Nat} {Q : State → Prop} {D : va_G} {cy : Nat → ClassId} {ad : Nat → Nat} {A : Nat → Prop} (X : zCx p rmX5_readActs s m args c cells slots cX5_readActs 4 RX5 D cy ad A) (post : Int32 → Mm → Ml → Prop) (hret : zRi p l e rmX5_readActs s m args below meth c cells slots Q cX5_readActs D cy ad A .int post) : ∀ (M : Mm) (L : Ml) (s0 : Int32) (H : Heap) (locs : List Loc) (ls : Array Slot), wpX5_readActs_141 post M L s0 → zWd D cy ad A s H locs M L → lv_has ls 4 [] → W p l e rmX5_readActs s m args below meth c H locs cells slots Q (F0 m 141 ls [.int s0]) := by
  have hx := X.1.1; have hb0 := X.1.2.1; have hts := X.1.2.2.2.2
  intro M L s0 H locs ls hw hW hl
  unfold wpX5_readActs_141 at hw
  exact hret _ ls _ _ s0 M L dX5_readActs_141 rfl hw hW
set_option maxRecDepth 20000 in
set_option maxHeartbeats 4000000 in
theorem mX5_readActs_10 {p : Program} {l : Launch} {e : Env} {s : State} {m : MethodId} {args : Array Value} {below : List Frame} {meth : Method} {c : Code} {cells slots : Nat} {Q : State → Prop} {D : va_G} {cy : Nat → ClassId} {ad : Nat → Nat} {A : Nat → Prop} (X : zCx p rmX5_readActs s m args c cells slots cX5_readActs 4 RX5 D cy ad A) (post : Int32 → Mm → Ml → Prop) (hret : zRi p l e rmX5_readActs s m args below meth c cells slots Q cX5_readActs D cy ad A .int post) : ∀ (j9 : Nat) (M : Mm) (L : Ml) (v1 : Int32) (v2 : Int32) (H : Heap) (locs : List Loc) (ls : Array Slot), wlX5_readActs_10 post j9 (M, L, v1, v2) → zWd D cy ad A s H locs M L → lv_has ls 4 [(0, .ref (ad 2)), (1, .int v1), (2, .int v2)] → W p l e rmX5_readActs s m args below meth c H locs cells slots Q (F0 m 10 ls []) := by
  have hx := X.1.1; have hb0 := X.1.2.1; have hts := X.1.2.2.2.2
  intro j9
  induction j9 with
  | zero => intro M L v1 v2 H locs ls hw; exact hw.elim
  | succ j9 ih =>
    obtain ⟨K10, hKe⟩ : ∃ K : Mm → Ml → Int32 → Int32 → Prop, K = fun M L v1 v2 => wlX5_readActs_10 post j9 (M, L, v1, v2) := ⟨_, rfl⟩
    have hK10 : ∀ (M : Mm) (L : Ml) (v1 : Int32) (v2 : Int32) (H : Heap) (locs : List Loc) (ls : Array Slot), K10 M L v1 v2 → zWd D cy ad A s H locs M L → lv_has ls 4 [(0, .ref (ad 2)), (1, .int v1), (2, .int v2)] → W p l e rmX5_readActs s m args below meth c H locs cells slots Q (F0 m 10 ls []) := by intro M L v1 v2 H locs ls hw; rw [hKe] at hw; exact ih M L v1 v2 H locs ls hw
    intro M L v1 v2 H locs ls hw hW hl
    have hw : wpX5_readActs_10 post K10 M L v1 v2 := by rw [hKe]; exact hw
    clear ih
    unfold wpX5_readActs_10 at hw
    refine lv_iload_n hx hb0 dX5_readActs_10 rfl (lv_at hl 2 rfl) ?_
    refine lv_aload_n hx hb0 dX5_readActs_11 rfl (lv_at hl 0 rfl) ?_
    refine z_getI X hW zC3 zF_2_1 (by decide) rfl zl_X5_15 dX5_readActs_12 ?_
    refine lv_icmp_ge (tgt := 126) hx hb0 dX5_readActs_15 (by decide) (fun c_15 => ?_) (fun c_15 => ?_)
    · replace hw := hw.1 c_15
      refine lv_iload_n hx hb0 dX5_readActs_126 rfl (lv_at hl 1 rfl) ?_
      refine lv_bipush (v := (-6 : Int32)) hx hb0 dX5_readActs_127 (by decide) ?_
      refine lv_icmp_ne (tgt := 137) hx hb0 dX5_readActs_129 (by decide) (fun c_129 => ?_) (fun c_129 => ?_)
      · replace hw := hw.1 c_129
        refine lv_aload_n hx hb0 dX5_readActs_137 rfl (lv_at hl 0 rfl) ?_
        refine z_getI X hW zC3 zF_2_1 (by decide) rfl zl_X5_15 dX5_readActs_138 ?_
        exact mX5_readActs_141 X post hret M L (M 2 1) _ _ ls hw hW (lv_sub hl [] rfl)
      · replace hw := hw.2 c_129
        refine lv_bipush (v := (-6 : Int32)) hx hb0 dX5_readActs_132 (by decide) ?_
        refine lv_goto (tgt := 141) hx hb0 dX5_readActs_134 (by decide) ?_
        exact mX5_readActs_141 X post hret M L (-6 : Int32) _ _ ls hw hW (lv_sub hl [] rfl)
    · replace hw := hw.2 c_15
      refine lv_iload_n hx hb0 dX5_readActs_18 rfl (lv_at hl 1 rfl) ?_
      refine lv_bipush (v := (-6 : Int32)) hx hb0 dX5_readActs_19 (by decide) ?_
      refine lv_icmp_ne (tgt := 51) hx hb0 dX5_readActs_21 (by decide) (fun c_21 => ?_) (fun c_21 => ?_)
      · replace hw := hw.1 c_21
        exact mX5_readActs_51 X post hret K10 hK10 M L v1 v2 _ _ ls hw hW (lv_sub hl [0, 1, 2] rfl)
      · replace hw := hw.2 c_21
        refine lv_aload_n hx hb0 dX5_readActs_24 rfl (lv_at hl 0 rfl) ?_
        refine z_getR (k2 := 3) X hW zC3 zR_2_0 (by decide) rfl zl_X5_11 dX5_readActs_25 ?_
        refine lv_iload_n hx hb0 dX5_readActs_28 rfl (lv_at hl 2 rfl) ?_
        obtain ⟨g_29, hw⟩ := hw
        refine z_iald X hW zI_3 g_29 dX5_readActs_29 ?_
        refine z_Si X zc_X5_oneOf zt_X5_oneOf zl_X5_28 rfl ⟨rfl, rfl⟩ ⟨Nat.le_of_ble_eq_true rfl, Nat.le_of_ble_eq_true rfl⟩ (kX5_oneOf l D cy ad X.2.2.2.1 (M 3 v2.toNatClampNeg)) hW hw hl.1 rfl rfl (Nat.le_of_ble_eq_true rfl) dX5_readActs_30 (fun r_30 M_30 L_30 H_30 locs_30 hw hW => ?_)
        refine lv_bipush (v := (-6 : Int32)) hx hb0 dX5_readActs_33 (by decide) ?_
        refine lv_icmp_eq (tgt := 51) hx hb0 dX5_readActs_35 (by decide) (fun c_35 => ?_) (fun c_35 => ?_)
        · replace hw := hw.1 c_35
          exact mX5_readActs_51 X post hret K10 hK10 M_30 L_30 v1 v2 _ _ ls hw hW (lv_sub hl [0, 1, 2] rfl)
        · replace hw := hw.2 c_35
          refine lv_aload_n hx hb0 dX5_readActs_38 rfl (lv_at hl 0 rfl) ?_
          refine z_getR (k2 := 3) X hW zC3 zR_2_0 (by decide) rfl zl_X5_11 dX5_readActs_39 ?_
          refine lv_iload_n hx hb0 dX5_readActs_42 rfl (lv_at hl 2 rfl) ?_
          obtain ⟨g_43, hw⟩ := hw
          refine z_iald X hW zI_3 g_43 dX5_readActs_43 ?_
          refine z_Si X zc_X5_oneOf zt_X5_oneOf zl_X5_28 rfl ⟨rfl, rfl⟩ ⟨Nat.le_of_ble_eq_true rfl, Nat.le_of_ble_eq_true rfl⟩ (kX5_oneOf l D cy ad X.2.2.2.1 (M_30 3 v2.toNatClampNeg)) hW hw hl.1 rfl rfl (Nat.le_of_ble_eq_true rfl) dX5_readActs_44 (fun r_44 M_44 L_44 H_44 locs_44 hw hW => ?_)
          refine lv_istore_n (lv' := [(1, .int r_44), (0, .ref (ad 2)), (2, .int v2)]) hx hb0 dX5_readActs_47 rfl hl (by decide) rfl (fun ls hl => ?_)
          refine lv_goto (tgt := 120) hx hb0 dX5_readActs_48 (by decide) ?_
          exact mX5_readActs_120 X post hret K10 hK10 M_44 L_44 r_44 v2 _ _ ls hw hW (lv_sub hl [1, 0, 2] rfl)
set_option maxRecDepth 20000 in
set_option maxHeartbeats 4000000 in
theorem mX5_readActs {p : Program} {l : Launch} {e : Env} {s : State} {m : MethodId} {args : Array Value} {below : List Frame} {meth : Method} {c : Code} {cells slots : Nat} {Q : State → Prop} {D : va_G} {cy : Nat → ClassId} {ad : Nat → Nat} {A : Nat → Prop} (X : zCx p rmX5_readActs s m args c cells slots cX5_readActs 4 RX5 D cy ad A) (post : Int32 → Mm → Ml → Prop) (hret : zRi p l e rmX5_readActs s m args below meth c cells slots Q cX5_readActs D cy ad A .int post) : ∀ (M : Mm) (L : Ml) (H : Heap) (locs : List Loc) (ls : Array Slot), wpX5_readActs M L post → zWd D cy ad A s H locs M L → lv_has ls 4 [(0, .ref (ad 2))] → W p l e rmX5_readActs s m args below meth c H locs cells slots Q (F0 m 0 ls []) := by
  have hx := X.1.1; have hb0 := X.1.2.1; have hts := X.1.2.2.2.2
  intro M L H locs ls hw hW hl
  unfold wpX5_readActs at hw
  refine lv_aload_n hx hb0 dX5_readActs_0 rfl (lv_at hl 0 rfl) ?_
  refine lv_iconst (v := (0 : Int32)) hx hb0 dX5_readActs_1 (by decide) ?_
  refine z_put (ty := .int) X hW zC3 zF_2_4 (by decide) rfl zl_X5_25 rfl (by decide +kernel) rfl rfl dX5_readActs_2 (fun M_2 H_2 locs_2 e_2 hW => ?_)
  replace hw := hw M_2 e_2
  refine lv_bipush (v := (-6 : Int32)) hx hb0 dX5_readActs_5 (by decide) ?_
  refine lv_istore_n (lv' := [(1, .int (-6 : Int32)), (0, .ref (ad 2))]) hx hb0 dX5_readActs_7 rfl hl (by decide) rfl (fun ls hl => ?_)
  refine lv_iconst (v := (0 : Int32)) hx hb0 dX5_readActs_8 (by decide) ?_
  refine lv_istore_n (lv' := [(2, .int (0 : Int32)), (1, .int (-6 : Int32)), (0, .ref (ad 2))]) hx hb0 dX5_readActs_9 rfl hl (by decide) rfl (fun ls hl => ?_)
  obtain ⟨n_10, hw⟩ := hw
  exact mX5_readActs_10 X post hret n_10 M_2 L (-6 : Int32) (0 : Int32) _ _ ls hw hW (lv_sub hl [2, 1, 0] rfl)
theorem kX5_readActs (l : Launch) (D : va_G) (cy : Nat → ClassId) (ad : Nat → Nat) (hi : zInj ad) : zMi l yX5_readActs (.code yX5_readActs cX5_readActs 4 (some .int) :: zG) rmX5_readActs D cy ad [.ref (ad 2)] (wpX5_readActs) :=
  zMi_of (by decide +kernel) (Nat.le_of_ble_eq_true rfl) hi (fun X M L post _ hret ls hl hw hW => mX5_readActs X post hret M L _ _ ls hw hW hl)
abbrev rmX6_winningTake : Room := { frames := 1, cells := 0, slots := 0, locals := 21 }
set_option maxRecDepth 20000 in
set_option maxHeartbeats 4000000 in
theorem mX6_winningTake_34 {p : Program} {l : Launch} {e : Env} {s : State} {m : MethodId} {args : Array Value} {below : List Frame} {meth : Method} {c : Code} {cells slots : Nat} {Q : State → Prop} {D : va_G} {cy : Nat → ClassId} {ad : Nat → Nat} {A : Nat → Prop} (X : zCx p rmX6_winningTake s m args c cells slots cX6_winningTake 4 RX6 D cy ad A) (post : Int32 → Mm → Ml → Prop) (hret : zRi p l e rmX6_winningTake s m args below meth c cells slots Q cX6_winningTake D cy ad A .int post) (K2 : Mm → Ml → Int32 → Int32 → Int32 → Prop) (hK2 : ∀ (M : Mm) (L : Ml) (v1 : Int32) (v2 : Int32) (v3 : Int32) (H : Heap) (locs : List Loc) (ls : Array Slot), K2 M L v1 v2 v3 → zWd D cy ad A s H locs M L → lv_has ls 4 [(0, .ref (ad 12)), (1, .int v1), (2, .int v2), (3, .int v3)] → W p l e rmX6_winningTake s m args below meth c H locs cells slots Q (F0 m 2 ls [])) : ∀ (M : Mm) (L : Ml) (v1 : Int32) (v2 : Int32) (v3 : Int32) (H : Heap) (locs : List Loc) (ls : Array Slot), wpX6_winningTake_34 post K2 M L v1 v2 v3 → zWd D cy ad A s H locs M L → lv_has ls 4 [(0, .ref (ad 12)), (1, .int v1), (2, .int v2), (3, .int v3)] → W p l e rmX6_winningTake s m args below meth c H locs cells slots Q (F0 m 34 ls []) := by
  have hx := X.1.1; have hb0 := X.1.2.1; have hts := X.1.2.2.2.2
  intro M L v1 v2 v3 H locs ls hw hW hl
  unfold wpX6_winningTake_34 at hw
  obtain ⟨a_34, e_34⟩ : ∃ y : Int32, y = v3 + (1 : Int32) := ⟨_, rfl⟩
  replace hw := hw a_34 e_34
  refine lv_iinc (v := a_34) (lv' := [(3, .int a_34), (0, .ref (ad 12)), (1, .int v1), (2, .int v2)]) hx hb0 dX6_winningTake_34 hl (k := 3) rfl (by rw [e_34]; rfl) (by decide) rfl (fun ls hl => ?_)
  refine lv_goto (tgt := 2) hx hb0 dX6_winningTake_37 (by decide) ?_
  exact hK2 M L v1 v2 a_34 _ _ ls hw hW (lv_sub hl [1, 2, 3, 0] rfl)
set_option maxRecDepth 20000 in
set_option maxHeartbeats 4000000 in
theorem mX6_winningTake_40 {p : Program} {l : Launch} {e : Env} {s : State} {m : MethodId} {args : Array Value} {below : List Frame} {meth : Method} {c : Code} {cells slots : Nat} {Q : State → Prop} {D : va_G} {cy : Nat → ClassId} {ad : Nat → Nat} {A : Nat → Prop} (X : zCx p rmX6_winningTake s m args c cells slots cX6_winningTake 4 RX6 D cy ad A) (post : Int32 → Mm → Ml → Prop) (hret : zRi p l e rmX6_winningTake s m args below meth c cells slots Q cX6_winningTake D cy ad A .int post) : ∀ (M : Mm) (L : Ml) (H : Heap) (locs : List Loc) (ls : Array Slot), wpX6_winningTake_40 post M L → zWd D cy ad A s H locs M L → lv_has ls 4 [] → W p l e rmX6_winningTake s m args below meth c H locs cells slots Q (F0 m 40 ls []) := by
  have hx := X.1.1; have hb0 := X.1.2.1; have hts := X.1.2.2.2.2
  intro M L H locs ls hw hW hl
  unfold wpX6_winningTake_40 at hw
  refine lv_bipush (v := (-6 : Int32)) hx hb0 dX6_winningTake_40 (by decide) ?_
  exact hret _ ls _ _ (-6 : Int32) M L dX6_winningTake_42 rfl hw hW
set_option maxRecDepth 20000 in
set_option maxHeartbeats 4000000 in
theorem mX6_winningTake_2 {p : Program} {l : Launch} {e : Env} {s : State} {m : MethodId} {args : Array Value} {below : List Frame} {meth : Method} {c : Code} {cells slots : Nat} {Q : State → Prop} {D : va_G} {cy : Nat → ClassId} {ad : Nat → Nat} {A : Nat → Prop} (X : zCx p rmX6_winningTake s m args c cells slots cX6_winningTake 4 RX6 D cy ad A) (post : Int32 → Mm → Ml → Prop) (hret : zRi p l e rmX6_winningTake s m args below meth c cells slots Q cX6_winningTake D cy ad A .int post) : ∀ (j9 : Nat) (M : Mm) (L : Ml) (v1 : Int32) (v2 : Int32) (v3 : Int32) (H : Heap) (locs : List Loc) (ls : Array Slot), wlX6_winningTake_2 post j9 (M, L, v1, v2, v3) → zWd D cy ad A s H locs M L → lv_has ls 4 [(0, .ref (ad 12)), (1, .int v1), (2, .int v2), (3, .int v3)] → W p l e rmX6_winningTake s m args below meth c H locs cells slots Q (F0 m 2 ls []) := by
  have hx := X.1.1; have hb0 := X.1.2.1; have hts := X.1.2.2.2.2
  intro j9
  induction j9 with
  | zero => intro M L v1 v2 v3 H locs ls hw; exact hw.elim
  | succ j9 ih =>
    obtain ⟨K2, hKe⟩ : ∃ K : Mm → Ml → Int32 → Int32 → Int32 → Prop, K = fun M L v1 v2 v3 => wlX6_winningTake_2 post j9 (M, L, v1, v2, v3) := ⟨_, rfl⟩
    have hK2 : ∀ (M : Mm) (L : Ml) (v1 : Int32) (v2 : Int32) (v3 : Int32) (H : Heap) (locs : List Loc) (ls : Array Slot), K2 M L v1 v2 v3 → zWd D cy ad A s H locs M L → lv_has ls 4 [(0, .ref (ad 12)), (1, .int v1), (2, .int v2), (3, .int v3)] → W p l e rmX6_winningTake s m args below meth c H locs cells slots Q (F0 m 2 ls []) := by intro M L v1 v2 v3 H locs ls hw; rw [hKe] at hw; exact ih M L v1 v2 v3 H locs ls hw
    intro M L v1 v2 v3 H locs ls hw hW hl
    have hw : wpX6_winningTake_2 post K2 M L v1 v2 v3 := by rw [hKe]; exact hw
    clear ih
    unfold wpX6_winningTake_2 at hw
    refine lv_iload_n hx hb0 dX6_winningTake_2 rfl (lv_at hl 3 rfl) ?_
    refine lv_iconst (v := (3 : Int32)) hx hb0 dX6_winningTake_3 (by decide) ?_
    refine lv_icmp_gt (tgt := 40) hx hb0 dX6_winningTake_4 (by decide) (fun c_4 => ?_) (fun c_4 => ?_)
    · replace hw := hw.1 c_4
      exact mX6_winningTake_40 X post hret M L _ _ ls hw hW (lv_sub hl [] rfl)
    · replace hw := hw.2 c_4
      refine lv_iload_n hx hb0 dX6_winningTake_7 rfl (lv_at hl 3 rfl) ?_
      refine lv_iload_n hx hb0 dX6_winningTake_8 rfl (lv_at hl 1 rfl) ?_
      refine lv_icmp_gt (tgt := 40) hx hb0 dX6_winningTake_9 (by decide) (fun c_9 => ?_) (fun c_9 => ?_)
      · replace hw := hw.1 c_9
        exact mX6_winningTake_40 X post hret M L _ _ ls hw hW (lv_sub hl [] rfl)
      · replace hw := hw.2 c_9
        refine lv_iload_n hx hb0 dX6_winningTake_12 rfl (lv_at hl 3 rfl) ?_
        refine lv_iload_n hx hb0 dX6_winningTake_13 rfl (lv_at hl 2 rfl) ?_
        refine lv_icmp_eq (tgt := 34) hx hb0 dX6_winningTake_14 (by decide) (fun c_14 => ?_) (fun c_14 => ?_)
        · replace hw := hw.1 c_14
          exact mX6_winningTake_34 X post hret K2 hK2 M L v1 v2 v3 _ _ ls hw hW (lv_sub hl [0, 1, 2, 3] rfl)
        · replace hw := hw.2 c_14
          refine lv_aload_n hx hb0 dX6_winningTake_17 rfl (lv_at hl 0 rfl) ?_
          refine z_getR (k2 := 13) X hW zC4 zR_12_0 (by decide) rfl zl_X6_9 dX6_winningTake_18 ?_
          refine lv_iload_n hx hb0 dX6_winningTake_21 rfl (lv_at hl 1 rfl) ?_
          refine lv_iload_n hx hb0 dX6_winningTake_22 rfl (lv_at hl 3 rfl) ?_
          refine lv_isub hx hb0 dX6_winningTake_23 ?_
          obtain ⟨g_24, hw⟩ := hw
          refine z_iald X hW zI_13 g_24 dX6_winningTake_24 ?_
          refine lv_iload_n hx hb0 dX6_winningTake_25 rfl (lv_at hl 3 rfl) ?_
          refine z_SNi X zc_X8_bit zt_X8_bit zn_X6_19 rfl ⟨rfl, rfl⟩ ⟨Nat.le_of_ble_eq_true rfl, Nat.le_of_ble_eq_true rfl⟩ (kX8_bit l D cy ad X.2.2.2.1 (M 13 (v1 - v3).toNatClampNeg) v3) hW hw hl.1 rfl rfl (Nat.le_of_ble_eq_true rfl) dX6_winningTake_26 (fun r_26 M_26 L_26 H_26 locs_26 hw hW => ?_)
          refine lv_if_ne (tgt := 34) hx hb0 dX6_winningTake_29 (by decide) (fun c_29 => ?_) (fun c_29 => ?_)
          · replace hw := hw.1 c_29
            exact mX6_winningTake_34 X post hret K2 hK2 M_26 L_26 v1 v2 v3 _ _ ls hw hW (lv_sub hl [0, 1, 2, 3] rfl)
          · replace hw := hw.2 c_29
            refine lv_iload_n hx hb0 dX6_winningTake_32 rfl (lv_at hl 3 rfl) ?_
            exact hret _ ls _ _ v3 M_26 L_26 dX6_winningTake_33 rfl hw hW
set_option maxRecDepth 20000 in
set_option maxHeartbeats 4000000 in
theorem mX6_winningTake {p : Program} {l : Launch} {e : Env} {s : State} {m : MethodId} {args : Array Value} {below : List Frame} {meth : Method} {c : Code} {cells slots : Nat} {Q : State → Prop} {D : va_G} {cy : Nat → ClassId} {ad : Nat → Nat} {A : Nat → Prop} (X : zCx p rmX6_winningTake s m args c cells slots cX6_winningTake 4 RX6 D cy ad A) (post : Int32 → Mm → Ml → Prop) (hret : zRi p l e rmX6_winningTake s m args below meth c cells slots Q cX6_winningTake D cy ad A .int post) : ∀ (M : Mm) (L : Ml) (x1 : Int32) (x2 : Int32) (H : Heap) (locs : List Loc) (ls : Array Slot), wpX6_winningTake x1 x2 M L post → zWd D cy ad A s H locs M L → lv_has ls 4 [(0, .ref (ad 12)), (1, .int x1), (2, .int x2)] → W p l e rmX6_winningTake s m args below meth c H locs cells slots Q (F0 m 0 ls []) := by
  have hx := X.1.1; have hb0 := X.1.2.1; have hts := X.1.2.2.2.2
  intro M L x1 x2 H locs ls hw hW hl
  unfold wpX6_winningTake at hw
  refine lv_iconst (v := (1 : Int32)) hx hb0 dX6_winningTake_0 (by decide) ?_
  refine lv_istore_n (lv' := [(3, .int (1 : Int32)), (0, .ref (ad 12)), (1, .int x1), (2, .int x2)]) hx hb0 dX6_winningTake_1 rfl hl (by decide) rfl (fun ls hl => ?_)
  obtain ⟨n_2, hw⟩ := hw
  exact mX6_winningTake_2 X post hret n_2 M L x1 x2 (1 : Int32) _ _ ls hw hW (lv_sub hl [1, 2, 3, 0] rfl)
theorem kX6_winningTake (l : Launch) (D : va_G) (cy : Nat → ClassId) (ad : Nat → Nat) (hi : zInj ad) (x1 : Int32) (x2 : Int32) : zMi l yX6_winningTake (.code yX6_winningTake cX6_winningTake 4 (some .int) :: zG) rmX6_winningTake D cy ad [.ref (ad 12), .int x1, .int x2] (wpX6_winningTake x1 x2) :=
  zMi_of (by decide +kernel) (Nat.le_of_ble_eq_true rfl) hi (fun X M L post _ hret ls hl hw hW => mX6_winningTake X post hret M L x1 x2 _ _ ls hw hW hl)
abbrev rmX7_has : Room := { frames := 1, cells := 0, slots := 0, locals := 21 }
set_option maxRecDepth 20000 in
set_option maxHeartbeats 4000000 in
theorem mX7_has_26 {p : Program} {l : Launch} {e : Env} {s : State} {m : MethodId} {args : Array Value} {below : List Frame} {meth : Method} {c : Code} {cells slots : Nat} {Q : State → Prop} {D : va_G} {cy : Nat → ClassId} {ad : Nat → Nat} {A : Nat → Prop} (X : zCx p rmX7_has s m args c cells slots cX7_has 2 RX7 D cy ad A) {b : Nat} (hb : isY b) (post : Int32 → Mm → Ml → Prop) (hret : zRi p l e rmX7_has s m args below meth c cells slots Q cX7_has D cy ad A .boolean post) : ∀ (M : Mm) (L : Ml) (s0 : Int32) (H : Heap) (locs : List Loc) (ls : Array Slot), wpX7_has_26 b post M L s0 → zWd D cy ad A s H locs M L → lv_has ls 2 [] → W p l e rmX7_has s m args below meth c H locs cells slots Q (F0 m 26 ls [.int s0]) := by
  have hx := X.1.1; have hb0 := X.1.2.1; have hts := X.1.2.2.2.2
  intro M L s0 H locs ls hw hW hl
  unfold wpX7_has_26 at hw
  exact hret _ ls _ _ s0 M L dX7_has_26 (z_bool hw.1) hw.2 hW
set_option maxRecDepth 20000 in
set_option maxHeartbeats 4000000 in
theorem mX7_has_25 {p : Program} {l : Launch} {e : Env} {s : State} {m : MethodId} {args : Array Value} {below : List Frame} {meth : Method} {c : Code} {cells slots : Nat} {Q : State → Prop} {D : va_G} {cy : Nat → ClassId} {ad : Nat → Nat} {A : Nat → Prop} (X : zCx p rmX7_has s m args c cells slots cX7_has 2 RX7 D cy ad A) {b : Nat} (hb : isY b) (post : Int32 → Mm → Ml → Prop) (hret : zRi p l e rmX7_has s m args below meth c cells slots Q cX7_has D cy ad A .boolean post) : ∀ (M : Mm) (L : Ml) (H : Heap) (locs : List Loc) (ls : Array Slot), wpX7_has_25 b post M L → zWd D cy ad A s H locs M L → lv_has ls 2 [] → W p l e rmX7_has s m args below meth c H locs cells slots Q (F0 m 25 ls []) := by
  have hx := X.1.1; have hb0 := X.1.2.1; have hts := X.1.2.2.2.2
  intro M L H locs ls hw hW hl
  unfold wpX7_has_25 at hw
  refine lv_iconst (v := (0 : Int32)) hx hb0 dX7_has_25 (by decide) ?_
  exact mX7_has_26 X hb post hret M L (0 : Int32) _ _ ls hw hW (lv_sub hl [] rfl)
set_option maxRecDepth 20000 in
set_option maxHeartbeats 4000000 in
theorem mX7_has {p : Program} {l : Launch} {e : Env} {s : State} {m : MethodId} {args : Array Value} {below : List Frame} {meth : Method} {c : Code} {cells slots : Nat} {Q : State → Prop} {D : va_G} {cy : Nat → ClassId} {ad : Nat → Nat} {A : Nat → Prop} (X : zCx p rmX7_has s m args c cells slots cX7_has 2 RX7 D cy ad A) {b : Nat} (hb : isY b) (post : Int32 → Mm → Ml → Prop) (hret : zRi p l e rmX7_has s m args below meth c cells slots Q cX7_has D cy ad A .boolean post) : ∀ (M : Mm) (L : Ml) (x1 : Int32) (H : Heap) (locs : List Loc) (ls : Array Slot), wpX7_has b x1 M L post → zWd D cy ad A s H locs M L → lv_has ls 2 [(0, .ref (ad b)), (1, .int x1)] → W p l e rmX7_has s m args below meth c H locs cells slots Q (F0 m 0 ls []) := by
  have hx := X.1.1; have hb0 := X.1.2.1; have hts := X.1.2.2.2.2
  intro M L x1 H locs ls hw hW hl
  unfold wpX7_has at hw
  refine lv_iload_n hx hb0 dX7_has_0 rfl (lv_at hl 1 rfl) ?_
  refine lv_bipush (v := (8 : Int32)) hx hb0 dX7_has_1 (by decide) ?_
  refine z_SNi X zc_X8_isBelow zt_X8_isBelow zn_X7_58 rfl ⟨rfl, rfl⟩ ⟨Nat.le_of_ble_eq_true rfl, Nat.le_of_ble_eq_true rfl⟩ (kX8_isBelow l D cy ad X.2.2.2.1 x1 (8 : Int32)) hW hw hl.1 rfl rfl (Nat.le_of_ble_eq_true rfl) dX7_has_3 (fun r_3 M_3 L_3 H_3 locs_3 hw hW => ?_)
  refine lv_if_eq (tgt := 25) hx hb0 dX7_has_6 (by decide) (fun c_6 => ?_) (fun c_6 => ?_)
  · replace hw := hw.1 c_6
    exact mX7_has_25 X hb post hret M_3 L_3 _ _ ls hw hW (lv_sub hl [] rfl)
  · replace hw := hw.2 c_6
    refine lv_aload_n hx hb0 dX7_has_9 rfl (lv_at hl 0 rfl) ?_
    refine z_getI X hW zC5 (zFY_0 hb) (by decide) rfl zl_X7_9 dX7_has_10 ?_
    refine lv_iload_n hx hb0 dX7_has_13 rfl (lv_at hl 1 rfl) ?_
    refine z_SNi X zc_X8_bit zt_X8_bit zn_X7_62 rfl ⟨rfl, rfl⟩ ⟨Nat.le_of_ble_eq_true rfl, Nat.le_of_ble_eq_true rfl⟩ (kX8_bit l D cy ad X.2.2.2.1 (M_3 b 0) x1) hW hw hl.1 rfl rfl (Nat.le_of_ble_eq_true rfl) dX7_has_14 (fun r_14 M_14 L_14 H_14 locs_14 hw hW => ?_)
    refine lv_iconst (v := (1 : Int32)) hx hb0 dX7_has_17 (by decide) ?_
    refine lv_icmp_ne (tgt := 25) hx hb0 dX7_has_18 (by decide) (fun c_18 => ?_) (fun c_18 => ?_)
    · replace hw := hw.1 c_18
      exact mX7_has_25 X hb post hret M_14 L_14 _ _ ls hw hW (lv_sub hl [] rfl)
    · replace hw := hw.2 c_18
      refine lv_iconst (v := (1 : Int32)) hx hb0 dX7_has_21 (by decide) ?_
      refine lv_goto (tgt := 26) hx hb0 dX7_has_22 (by decide) ?_
      exact mX7_has_26 X hb post hret M_14 L_14 (1 : Int32) _ _ ls hw hW (lv_sub hl [] rfl)
theorem kX7_has (l : Launch) (D : va_G) (cy : Nat → ClassId) (ad : Nat → Nat) (hi : zInj ad) {b : Nat} (hb : isY b) (x1 : Int32) : zMi l yX7_has (.code yX7_has cX7_has 2 (some .boolean) :: zG) rmX7_has D cy ad [.ref (ad b), .int x1] (wpX7_has b x1) :=
  zMi_of (by decide +kernel) (Nat.le_of_ble_eq_true rfl) hi (fun X M L post _ hret ls hl hw hW => mX7_has X hb post hret M L x1 _ _ ls hw hW hl)
abbrev rmX7_putFlake : Room := { frames := 0, cells := 0, slots := 0, locals := 0 }
set_option maxRecDepth 20000 in
set_option maxHeartbeats 4000000 in
theorem mX7_putFlake {p : Program} {l : Launch} {e : Env} {s : State} {m : MethodId} {args : Array Value} {below : List Frame} {meth : Method} {c : Code} {cells slots : Nat} {Q : State → Prop} {D : va_G} {cy : Nat → ClassId} {ad : Nat → Nat} {A : Nat → Prop} (X : zCx p rmX7_putFlake s m args c cells slots cX7_putFlake 6 RX7 D cy ad A) {b : Nat} (hb : isY b) (post : Mm → Ml → Prop) (hret : zRv p l e rmX7_putFlake s m args below meth c cells slots Q cX7_putFlake D cy ad A post) : ∀ (M : Mm) (L : Ml) (x1 : Int32) (x2 : Int32) (x3 : Int32) (x4 : Int32) (x5 : Int32) (H : Heap) (locs : List Loc) (ls : Array Slot), wpX7_putFlake b x1 x2 x3 x4 x5 M L post → zWd D cy ad A s H locs M L → lv_has ls 6 [(0, .ref (ad b)), (1, .int x1), (2, .int x2), (3, .int x3), (4, .int x4), (5, .int x5)] → W p l e rmX7_putFlake s m args below meth c H locs cells slots Q (F0 m 0 ls []) := by
  have hx := X.1.1; have hb0 := X.1.2.1; have hts := X.1.2.2.2.2
  intro M L x1 x2 x3 x4 x5 H locs ls hw hW hl
  unfold wpX7_putFlake at hw
  refine lv_aload_n hx hb0 dX7_putFlake_0 rfl (lv_at hl 0 rfl) ?_
  refine lv_dup hx hb0 dX7_putFlake_1 rfl ?_
  refine z_getI X hW zC5 (zFY_0 hb) (by decide) rfl zl_X7_9 dX7_putFlake_2 ?_
  refine lv_iconst (v := (1 : Int32)) hx hb0 dX7_putFlake_5 (by decide) ?_
  refine lv_iload_n hx hb0 dX7_putFlake_6 rfl (lv_at hl 1 rfl) ?_
  refine lv_ishl hx hb0 dX7_putFlake_7 ?_
  refine lv_ior hx hb0 dX7_putFlake_8 ?_
  refine z_put (ty := .int) X hW zC5 (zFY_0 hb) (by decide) rfl zl_X7_9 rfl (by decide +kernel) rfl rfl dX7_putFlake_9 (fun M_9 H_9 locs_9 e_9 hW => ?_)
  replace hw := hw M_9 e_9
  refine lv_aload_n hx hb0 dX7_putFlake_12 rfl (lv_at hl 0 rfl) ?_
  refine z_getR (k2 := (b + 1)) X hW zC5 (zRY_1 hb) (by decide) rfl zl_X7_15 dX7_putFlake_13 ?_
  refine lv_iload_n hx hb0 dX7_putFlake_16 rfl (lv_at hl 1 rfl) ?_
  refine lv_iload_n hx hb0 dX7_putFlake_17 rfl (lv_at hl 2 rfl) ?_
  obtain ⟨g_18, hw⟩ := hw
  refine z_iast X hW (zIY_1 hb) g_18 dX7_putFlake_18 (fun M_18 H_18 locs_18 e_18 hW => ?_)
  replace hw := hw M_18 e_18
  refine lv_aload_n hx hb0 dX7_putFlake_19 rfl (lv_at hl 0 rfl) ?_
  refine z_getR (k2 := (b + 2)) X hW zC5 (zRY_2 hb) (by decide) rfl zl_X7_19 dX7_putFlake_20 ?_
  refine lv_iload_n hx hb0 dX7_putFlake_23 rfl (lv_at hl 1 rfl) ?_
  refine lv_iload_n hx hb0 dX7_putFlake_24 rfl (lv_at hl 3 rfl) ?_
  obtain ⟨g_25, hw⟩ := hw
  refine z_iast X hW (zIY_2 hb) g_25 dX7_putFlake_25 (fun M_25 H_25 locs_25 e_25 hW => ?_)
  replace hw := hw M_25 e_25
  refine lv_aload_n hx hb0 dX7_putFlake_26 rfl (lv_at hl 0 rfl) ?_
  refine z_getR (k2 := (b + 3)) X hW zC5 (zRY_3 hb) (by decide) rfl zl_X7_22 dX7_putFlake_27 ?_
  refine lv_iload_n hx hb0 dX7_putFlake_30 rfl (lv_at hl 1 rfl) ?_
  refine lv_iload hx hb0 dX7_putFlake_31 (lv_at hl 4 rfl) ?_
  obtain ⟨g_33, hw⟩ := hw
  refine z_iast X hW (zIY_3 hb) g_33 dX7_putFlake_33 (fun M_33 H_33 locs_33 e_33 hW => ?_)
  replace hw := hw M_33 e_33
  refine lv_aload_n hx hb0 dX7_putFlake_34 rfl (lv_at hl 0 rfl) ?_
  refine z_getR (k2 := (b + 4)) X hW zC5 (zRY_4 hb) (by decide) rfl zl_X7_25 dX7_putFlake_35 ?_
  refine lv_iload_n hx hb0 dX7_putFlake_38 rfl (lv_at hl 1 rfl) ?_
  refine lv_iload hx hb0 dX7_putFlake_39 (lv_at hl 5 rfl) ?_
  obtain ⟨g_41, hw⟩ := hw
  refine z_iast X hW (zIY_4 hb) g_41 dX7_putFlake_41 (fun M_41 H_41 locs_41 e_41 hW => ?_)
  replace hw := hw M_41 e_41
  refine lv_aload_n hx hb0 dX7_putFlake_42 rfl (lv_at hl 0 rfl) ?_
  refine z_getR (k2 := (b + 5)) X hW zC5 (zRY_5 hb) (by decide) rfl zl_X7_28 dX7_putFlake_43 ?_
  refine lv_iload_n hx hb0 dX7_putFlake_46 rfl (lv_at hl 1 rfl) ?_
  refine lv_bipush (v := (-6 : Int32)) hx hb0 dX7_putFlake_47 (by decide) ?_
  obtain ⟨g_49, hw⟩ := hw
  refine z_iast X hW (zIY_5 hb) g_49 dX7_putFlake_49 (fun M_49 H_49 locs_49 e_49 hW => ?_)
  replace hw := hw M_49 e_49
  exact hret _ ls _ _ M_49 L dX7_putFlake_50 hw hW
theorem kX7_putFlake (l : Launch) (D : va_G) (cy : Nat → ClassId) (ad : Nat → Nat) (hi : zInj ad) {b : Nat} (hb : isY b) (x1 : Int32) (x2 : Int32) (x3 : Int32) (x4 : Int32) (x5 : Int32) : zMv l yX7_putFlake (.code yX7_putFlake cX7_putFlake 6 none :: zG) rmX7_putFlake D cy ad [.ref (ad b), .int x1, .int x2, .int x3, .int x4, .int x5] (wpX7_putFlake b x1 x2 x3 x4 x5) :=
  zMv_of (by decide +kernel) (Nat.le_of_ble_eq_true rfl) hi (fun X M L post _ hret ls hl hw hW => mX7_putFlake X hb post hret M L x1 x2 x3 x4 x5 _ _ ls hw hW hl)
abbrev rmX7_removeFlake : Room := { frames := 0, cells := 0, slots := 0, locals := 0 }
set_option maxRecDepth 20000 in
set_option maxHeartbeats 4000000 in
theorem mX7_removeFlake {p : Program} {l : Launch} {e : Env} {s : State} {m : MethodId} {args : Array Value} {below : List Frame} {meth : Method} {c : Code} {cells slots : Nat} {Q : State → Prop} {D : va_G} {cy : Nat → ClassId} {ad : Nat → Nat} {A : Nat → Prop} (X : zCx p rmX7_removeFlake s m args c cells slots cX7_removeFlake 2 RX7 D cy ad A) {b : Nat} (hb : isY b) (post : Mm → Ml → Prop) (hret : zRv p l e rmX7_removeFlake s m args below meth c cells slots Q cX7_removeFlake D cy ad A post) : ∀ (M : Mm) (L : Ml) (x1 : Int32) (H : Heap) (locs : List Loc) (ls : Array Slot), wpX7_removeFlake b x1 M L post → zWd D cy ad A s H locs M L → lv_has ls 2 [(0, .ref (ad b)), (1, .int x1)] → W p l e rmX7_removeFlake s m args below meth c H locs cells slots Q (F0 m 0 ls []) := by
  have hx := X.1.1; have hb0 := X.1.2.1; have hts := X.1.2.2.2.2
  intro M L x1 H locs ls hw hW hl
  unfold wpX7_removeFlake at hw
  refine lv_aload_n hx hb0 dX7_removeFlake_0 rfl (lv_at hl 0 rfl) ?_
  refine lv_dup hx hb0 dX7_removeFlake_1 rfl ?_
  refine z_getI X hW zC5 (zFY_0 hb) (by decide) rfl zl_X7_9 dX7_removeFlake_2 ?_
  refine lv_iconst (v := (1 : Int32)) hx hb0 dX7_removeFlake_5 (by decide) ?_
  refine lv_iload_n hx hb0 dX7_removeFlake_6 rfl (lv_at hl 1 rfl) ?_
  refine lv_ishl hx hb0 dX7_removeFlake_7 ?_
  refine lv_iconst (v := (-1 : Int32)) hx hb0 dX7_removeFlake_8 (by decide) ?_
  refine lv_ixor hx hb0 dX7_removeFlake_9 ?_
  refine lv_iand hx hb0 dX7_removeFlake_10 ?_
  refine z_put (ty := .int) X hW zC5 (zFY_0 hb) (by decide) rfl zl_X7_9 rfl (by decide +kernel) rfl rfl dX7_removeFlake_11 (fun M_11 H_11 locs_11 e_11 hW => ?_)
  replace hw := hw M_11 e_11
  refine lv_aload_n hx hb0 dX7_removeFlake_14 rfl (lv_at hl 0 rfl) ?_
  refine z_getR (k2 := (b + 3)) X hW zC5 (zRY_3 hb) (by decide) rfl zl_X7_22 dX7_removeFlake_15 ?_
  refine lv_iload_n hx hb0 dX7_removeFlake_18 rfl (lv_at hl 1 rfl) ?_
  refine lv_iconst (v := (0 : Int32)) hx hb0 dX7_removeFlake_19 (by decide) ?_
  obtain ⟨g_20, hw⟩ := hw
  refine z_iast X hW (zIY_3 hb) g_20 dX7_removeFlake_20 (fun M_20 H_20 locs_20 e_20 hW => ?_)
  replace hw := hw M_20 e_20
  exact hret _ ls _ _ M_20 L dX7_removeFlake_21 hw hW
theorem kX7_removeFlake (l : Launch) (D : va_G) (cy : Nat → ClassId) (ad : Nat → Nat) (hi : zInj ad) {b : Nat} (hb : isY b) (x1 : Int32) : zMv l yX7_removeFlake (.code yX7_removeFlake cX7_removeFlake 2 none :: zG) rmX7_removeFlake D cy ad [.ref (ad b), .int x1] (wpX7_removeFlake b x1) :=
  zMv_of (by decide +kernel) (Nat.le_of_ble_eq_true rfl) hi (fun X M L post _ hret ls hl hw hW => mX7_removeFlake X hb post hret M L x1 _ _ ls hw hW hl)
