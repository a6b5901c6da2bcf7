/-! the walks, by program -/
abbrev rmX9_grown : Room := { frames := 0, cells := 0, slots := 0, locals := 0 }
set_option maxRecDepth 20000 in
set_option maxHeartbeats 4000000 in
theorem mX9_grown_9 {p : Program} {l : Launch} {e : Env} {s : State} {m : MethodId} {args : Array Value} {below : List Frame} {meth : Method} {c : Code} {cells slots : Nat} {Q : State → Prop} {D : va_G} {cy : Nat → ClassId} {ad : Nat → Nat} {A : Nat → Prop} (X : zCx p rmX9_grown s m args c cells slots cX9_grown 8 RX9 D cy ad A) (post : Int32 → Mm → Ml → Prop) (hret : zRi p l e rmX9_grown s m args below meth c cells slots Q cX9_grown D cy ad A .int post) : ∀ (j9 : Nat) (M : Mm) (L : Ml) (v1 : Int32) (v2 : Int32) (v3 : Int32) (v4 : Int32) (H : Heap) (locs : List Loc) (ls : Array Slot), wlX9_grown_9 post j9 (M, L, v1, v2, v3, v4) → zWd D cy ad A s H locs M L → lv_has ls 8 [(1, .int v1), (2, .int v2), (3, .int v3), (4, .int v4)] → W p l e rmX9_grown s m args below meth c H locs cells slots Q (F0 m 9 ls []) := by
  have hx := X.1.1; have hb0 := X.1.2.1; have hts := X.1.2.2.2.2
  intro j9
  induction j9 with
  | zero => intro M L v1 v2 v3 v4 H locs ls hw; exact hw.elim
  | succ j9 ih =>
    obtain ⟨K9, hKe⟩ : ∃ K : Mm → Ml → Int32 → Int32 → Int32 → Int32 → Prop, K = fun M L v1 v2 v3 v4 => wlX9_grown_9 post j9 (M, L, v1, v2, v3, v4) := ⟨_, rfl⟩
    have hK9 : ∀ (M : Mm) (L : Ml) (v1 : Int32) (v2 : Int32) (v3 : Int32) (v4 : Int32) (H : Heap) (locs : List Loc) (ls : Array Slot), K9 M L v1 v2 v3 v4 → zWd D cy ad A s H locs M L → lv_has ls 8 [(1, .int v1), (2, .int v2), (3, .int v3), (4, .int v4)] → W p l e rmX9_grown s m args below meth c H locs cells slots Q (F0 m 9 ls []) := by intro M L v1 v2 v3 v4 H locs ls hw; rw [hKe] at hw; exact ih M L v1 v2 v3 v4 H locs ls hw
    intro M L v1 v2 v3 v4 H locs ls hw hW hl
    have hw : wpX9_grown_9 post K9 M L v1 v2 v3 v4 := by rw [hKe]; exact hw
    clear ih
    unfold wpX9_grown_9 at hw
    refine lv_iload hx hb0 dX9_grown_9 (lv_at hl 3 rfl) ?_
    refine lv_bipush (v := (8 : Int32)) hx hb0 dX9_grown_11 (by decide) ?_
    refine lv_icmp_ge (tgt := 72) hx hb0 dX9_grown_13 (by decide) (fun c_13 => ?_) (fun c_13 => ?_)
    · replace hw := hw.1 c_13
      refine lv_iload_n hx hb0 dX9_grown_72 rfl (lv_at hl 1 rfl) ?_
      exact hret _ ls _ _ v2 M L dX9_grown_73 rfl hw hW
    · replace hw := hw.2 c_13
      refine lv_iload_n hx hb0 dX9_grown_16 rfl (lv_at hl 2 rfl) ?_
      refine lv_iload hx hb0 dX9_grown_17 (lv_at hl 3 rfl) ?_
      refine lv_ishr hx hb0 dX9_grown_19 ?_
      refine lv_iconst (v := (1 : Int32)) hx hb0 dX9_grown_20 (by decide) ?_
      refine lv_iand hx hb0 dX9_grown_21 ?_
      refine lv_topi (fun a_22 e_22 => ?_)
      replace hw := hw a_22 e_22
      refine lv_istore (lv' := [(5, .int a_22), (1, .int v1), (2, .int v2), (3, .int v3), (4, .int v4)]) hx hb0 dX9_grown_22 hl (by decide) rfl (fun ls hl => ?_)
      refine lv_iload_n hx hb0 dX9_grown_24 rfl (lv_at hl 3 rfl) ?_
      refine lv_iload hx hb0 dX9_grown_25 (lv_at hl 4 rfl) ?_
      refine lv_iconst (v := (1 : Int32)) hx hb0 dX9_grown_27 (by decide) ?_
      refine lv_iadd hx hb0 dX9_grown_28 ?_
      refine lv_ishr hx hb0 dX9_grown_29 ?_
      refine lv_iconst (v := (1 : Int32)) hx hb0 dX9_grown_30 (by decide) ?_
      refine lv_iand hx hb0 dX9_grown_31 ?_
      refine lv_topi (fun a_32 e_32 => ?_)
      replace hw := hw a_32 e_32
      refine lv_istore (lv' := [(6, .int a_32), (5, .int a_22), (1, .int v1), (2, .int v2), (3, .int v3), (4, .int v4)]) hx hb0 dX9_grown_32 hl (by decide) rfl (fun ls hl => ?_)
      refine lv_iload_n hx hb0 dX9_grown_34 rfl (lv_at hl 4 rfl) ?_
      refine lv_iload hx hb0 dX9_grown_35 (lv_at hl 5 rfl) ?_
      refine lv_iconst (v := (2 : Int32)) hx hb0 dX9_grown_37 (by decide) ?_
      refine lv_iadd hx hb0 dX9_grown_38 ?_
      refine lv_ishr hx hb0 dX9_grown_39 ?_
      refine lv_iconst (v := (1 : Int32)) hx hb0 dX9_grown_40 (by decide) ?_
      refine lv_iand hx hb0 dX9_grown_41 ?_
      refine lv_topi (fun a_42 e_42 => ?_)
      replace hw := hw a_42 e_42
      refine lv_istore (lv' := [(7, .int a_42), (6, .int a_32), (5, .int a_22), (1, .int v1), (2, .int v2), (3, .int v3), (4, .int v4)]) hx hb0 dX9_grown_42 hl (by decide) rfl (fun ls hl => ?_)
      refine lv_iload_n hx hb0 dX9_grown_44 rfl (lv_at hl 4 rfl) ?_
      refine lv_iload_n hx hb0 dX9_grown_45 rfl (lv_at hl 3 rfl) ?_
      refine lv_iconst (v := (4 : Int32)) hx hb0 dX9_grown_46 (by decide) ?_
      refine lv_iload hx hb0 dX9_grown_47 (lv_at hl 0 rfl) ?_
      refine lv_imul hx hb0 dX9_grown_49 ?_
      refine lv_iconst (v := (2 : Int32)) hx hb0 dX9_grown_50 (by decide) ?_
      refine lv_iload hx hb0 dX9_grown_51 (lv_at hl 1 rfl) ?_
      refine lv_imul hx hb0 dX9_grown_53 ?_
      refine lv_iadd hx hb0 dX9_grown_54 ?_
      refine lv_iload hx hb0 dX9_grown_55 (lv_at hl 2 rfl) ?_
      refine lv_iadd hx hb0 dX9_grown_57 ?_
      refine lv_ishr hx hb0 dX9_grown_58 ?_
      refine lv_iconst (v := (1 : Int32)) hx hb0 dX9_grown_59 (by decide) ?_
      refine lv_iand hx hb0 dX9_grown_60 ?_
      refine lv_iload hx hb0 dX9_grown_61 (lv_at hl 6 rfl) ?_
      refine lv_ishl hx hb0 dX9_grown_63 ?_
      refine lv_ior hx hb0 dX9_grown_64 ?_
      refine lv_topi (fun a_65 e_65 => ?_)
      replace hw := hw a_65 e_65
      refine lv_istore_n (lv' := [(2, .int a_65), (7, .int a_42), (6, .int a_32), (5, .int a_22), (1, .int v1), (3, .int v3), (4, .int v4)]) hx hb0 dX9_grown_65 rfl hl (by decide) rfl (fun ls hl => ?_)
      obtain ⟨a_66, e_66⟩ : ∃ y : Int32, y = v4 + (1 : Int32) := ⟨_, rfl⟩
      replace hw := hw a_66 e_66
      refine lv_iinc (v := a_66) (lv' := [(4, .int a_66), (2, .int a_65), (7, .int a_42), (6, .int a_32), (5, .int a_22), (1, .int v1), (3, .int v3)]) hx hb0 dX9_grown_66 hl (k := 6) rfl (by rw [e_66]; rfl) (by decide) rfl (fun ls hl => ?_)
      refine lv_goto (tgt := 9) hx hb0 dX9_grown_69 (by decide) ?_
      exact hK9 M L v1 a_65 v3 a_66 _ _ ls hw hW (lv_sub hl [5, 1, 6, 0] rfl)
set_option maxRecDepth 20000 in
set_option maxHeartbeats 4000000 in
theorem mX9_grown {p : Program} {l : Launch} {e : Env} {s : State} {m : MethodId} {args : Array Value} {below : List Frame} {meth : Method} {c : Code} {cells slots : Nat} {Q : State → Prop} {D : va_G} {cy : Nat → ClassId} {ad : Nat → Nat} {A : Nat → Prop} (X : zCx p rmX9_grown s m args c cells slots cX9_grown 8 RX9 D cy ad A) (post : Int32 → Mm → Ml → Prop) (hret : zRi p l e rmX9_grown s m args below meth c cells slots Q cX9_grown D cy ad A .int post) : ∀ (M : Mm) (L : Ml) (x1 : Int32) (x2 : Int32) (H : Heap) (locs : List Loc) (ls : Array Slot), wpX9_grown x1 x2 M L post → zWd D cy ad A s H locs M L → lv_has ls 8 [(0, .int x1), (1, .int x2)] → W p l e rmX9_grown s m args below meth c H locs cells slots Q (F0 m 0 ls []) := by
  have hx := X.1.1; have hb0 := X.1.2.1; have hts := X.1.2.2.2.2
  intro M L x1 x2 H locs ls hw hW hl
  unfold wpX9_grown at hw
  refine lv_iconst (v := (0 : Int32)) hx hb0 dX9_grown_0 (by decide) ?_
  refine lv_istore_n (lv' := [(2, .int (0 : Int32)), (0, .int x1), (1, .int x2)]) hx hb0 dX9_grown_1 rfl hl (by decide) rfl (fun ls hl => ?_)
  refine lv_iload_n hx hb0 dX9_grown_2 rfl (lv_at hl 1 rfl) ?_
  refine lv_iconst (v := (1 : Int32)) hx hb0 dX9_grown_3 (by decide) ?_
  refine lv_ishl hx hb0 dX9_grown_4 ?_
  refine lv_topi (fun a_5 e_5 => ?_)
  replace hw := hw a_5 e_5
  refine lv_istore_n (lv' := [(3, .int a_5), (2, .int (0 : Int32)), (0, .int x1), (1, .int x2)]) hx hb0 dX9_grown_5 rfl hl (by decide) rfl (fun ls hl => ?_)
  refine lv_iconst (v := (0 : Int32)) hx hb0 dX9_grown_6 (by decide) ?_
  refine lv_istore (lv' := [(4, .int (0 : Int32)), (3, .int a_5), (2, .int (0 : Int32)), (0, .int x1), (1, .int x2)]) hx hb0 dX9_grown_7 hl (by decide) rfl (fun ls hl => ?_)
  obtain ⟨n_9, hw⟩ := hw
  exact mX9_grown_9 X post hret n_9 M L x2 (0 : Int32) a_5 (0 : Int32) _ _ ls hw hW (lv_sub hl [4, 2, 1, 0] rfl)
theorem kX9_grown (l : Launch) (D : va_G) (cy : Nat → ClassId) (ad : Nat → Nat) (hi : zInj ad) (x1 : Int32) (x2 : Int32) : zMi l yX9_grown (.code yX9_grown cX9_grown 8 (some .int) :: zG) rmX9_grown D cy ad [.int x1, .int x2] (wpX9_grown x1 x2) :=
  zMi_of (by decide +kernel) (Nat.le_of_ble_eq_true rfl) hi (fun X M L post _ hret ls hl hw hW => mX9_grown X post hret M L x1 x2 _ _ ls hw hW hl)
abbrev rmX9_grow : Room := { frames := 3, cells := 0, slots := 0, locals := 67 }
set_option maxRecDepth 20000 in
set_option maxHeartbeats 4000000 in
theorem mX9_grow_45 {p : Program} {l : Launch} {e : Env} {s : State} {m : MethodId} {args : Array Value} {below : List Frame} {meth : Method} {c : Code} {cells slots : Nat} {Q : State → Prop} {D : va_G} {cy : Nat → ClassId} {ad : Nat → Nat} {A : Nat → Prop} (X : zCx p rmX9_grow s m args c cells slots cX9_grow 3 RX9 D cy ad A) (post : Mm → Ml → Prop) (hret : zRv p l e rmX9_grow s m args below meth c cells slots Q cX9_grow D cy ad A post) (K2 : Mm → Ml → Int32 → Int32 → Prop) (hK2 : ∀ (M : Mm) (L : Ml) (v1 : Int32) (v2 : Int32) (H : Heap) (locs : List Loc) (ls : Array Slot), K2 M L v1 v2 → zWd D cy ad A s H locs M L → lv_has ls 3 [(0, .ref (ad 42)), (1, .int v1), (2, .int v2)] → W p l e rmX9_grow s m args below meth c H locs cells slots Q (F0 m 2 ls [])) : ∀ (M : Mm) (L : Ml) (v1 : Int32) (v2 : Int32) (s0 : Int32) (s1 : Int32) (H : Heap) (locs : List Loc) (ls : Array Slot), wpX9_grow_45 post K2 M L v1 v2 s0 s1 → zWd D cy ad A s H locs M L → lv_has ls 3 [(0, .ref (ad 42)), (1, .int v1), (2, .int v2)] → W p l e rmX9_grow s m args below meth c H locs cells slots Q (F0 m 45 ls [.int s0, .int s1, .ref (ad 43)]) := by
  have hx := X.1.1; have hb0 := X.1.2.1; have hts := X.1.2.2.2.2
  intro M L v1 v2 s0 s1 H locs ls hw hW hl
  unfold wpX9_grow_45 at hw
  obtain ⟨g_45, hw⟩ := hw
  refine z_iast X hW zI_43 g_45 dX9_grow_45 (fun M_45 H_45 locs_45 e_45 hW => ?_)
  replace hw := hw M_45 e_45
  obtain ⟨a_46, e_46⟩ : ∃ y : Int32, y = v2 + (1 : Int32) := ⟨_, rfl⟩
  replace hw := hw a_46 e_46
  refine lv_iinc (v := a_46) (lv' := [(2, .int a_46), (0, .ref (ad 42)), (1, .int v1)]) hx hb0 dX9_grow_46 hl (k := 2) rfl (by rw [e_46]; rfl) (by decide) rfl (fun ls hl => ?_)
  refine lv_goto (tgt := 2) hx hb0 dX9_grow_49 (by decide) ?_
  exact hK2 M_45 L v1 a_46 _ _ ls hw hW (lv_sub hl [1, 2, 0] rfl)
set_option maxRecDepth 20000 in
set_option maxHeartbeats 4000000 in
theorem mX9_grow_2 {p : Program} {l : Launch} {e : Env} {s : State} {m : MethodId} {args : Array Value} {below : List Frame} {meth : Method} {c : Code} {cells slots : Nat} {Q : State → Prop} {D : va_G} {cy : Nat → ClassId} {ad : Nat → Nat} {A : Nat → Prop} (X : zCx p rmX9_grow s m args c cells slots cX9_grow 3 RX9 D cy ad A) (post : Mm → Ml → Prop) (hret : zRv p l e rmX9_grow s m args below meth c cells slots Q cX9_grow D cy ad A post) : ∀ (j9 : Nat) (M : Mm) (L : Ml) (v1 : Int32) (v2 : Int32) (H : Heap) (locs : List Loc) (ls : Array Slot), wlX9_grow_2 post j9 (M, L, v1, v2) → zWd D cy ad A s H locs M L → lv_has ls 3 [(0, .ref (ad 42)), (1, .int v1), (2, .int v2)] → W p l e rmX9_grow s m args below meth c H locs cells slots Q (F0 m 2 ls []) := by
  have hx := X.1.1; have hb0 := X.1.2.1; have hts := X.1.2.2.2.2
  intro j9
  induction j9 with
  | zero => intro M L v1 v2 H locs ls hw; exact hw.elim
  | succ j9 ih =>
    obtain ⟨K2, hKe⟩ : ∃ K : Mm → Ml → Int32 → Int32 → Prop, K = fun M L v1 v2 => wlX9_grow_2 post j9 (M, L, v1, v2) := ⟨_, rfl⟩
    have hK2 : ∀ (M : Mm) (L : Ml) (v1 : Int32) (v2 : Int32) (H : Heap) (locs : List Loc) (ls : Array Slot), K2 M L v1 v2 → zWd D cy ad A s H locs M L → lv_has ls 3 [(0, .ref (ad 42)), (1, .int v1), (2, .int v2)] → W p l e rmX9_grow s m args below meth c H locs cells slots Q (F0 m 2 ls []) := by intro M L v1 v2 H locs ls hw; rw [hKe] at hw; exact ih M L v1 v2 H locs ls hw
    intro M L v1 v2 H locs ls hw hW hl
    have hw : wpX9_grow_2 post K2 M L v1 v2 := by rw [hKe]; exact hw
    clear ih
    unfold wpX9_grow_2 at hw
    refine lv_iload_n hx hb0 dX9_grow_2 rfl (lv_at hl 2 rfl) ?_
    refine lv_bipush (v := (8 : Int32)) hx hb0 dX9_grow_3 (by decide) ?_
    refine lv_icmp_ge (tgt := 52) hx hb0 dX9_grow_5 (by decide) (fun c_5 => ?_) (fun c_5 => ?_)
    · replace hw := hw.1 c_5
      exact hret _ ls _ _ M L dX9_grow_52 hw hW
    · replace hw := hw.2 c_5
      refine lv_aload_n hx hb0 dX9_grow_8 rfl (lv_at hl 0 rfl) ?_
      refine z_getR (k2 := 43) X hW zC7 zR_42_1 (by decide) rfl zl_X9_7 dX9_grow_9 ?_
      refine lv_iload_n hx hb0 dX9_grow_12 rfl (lv_at hl 2 rfl) ?_
      refine lv_aload_n hx hb0 dX9_grow_13 rfl (lv_at hl 0 rfl) ?_
      refine lv_iload_n hx hb0 dX9_grow_14 rfl (lv_at hl 2 rfl) ?_
      refine z_Vi X zO_42 zC7 zc_X9_isAbove zs_X9_isAbove zl_X9_137 rfl ⟨rfl, rfl⟩ ⟨Nat.le_of_ble_eq_true rfl, Nat.le_of_ble_eq_true rfl⟩ (kX9_isAbove l D cy ad X.2.2.2.1 v2) hW hw hl.1 rfl rfl (Nat.le_of_ble_eq_true rfl) dX9_grow_15 (fun r_15 M_15 L_15 H_15 locs_15 hw hW => ?_)
      refine lv_if_eq (tgt := 39) hx hb0 dX9_grow_18 (by decide) (fun c_18 => ?_) (fun c_18 => ?_)
      · replace hw := hw.1 c_18
        refine lv_aload_n hx hb0 dX9_grow_39 rfl (lv_at hl 0 rfl) ?_
        refine z_getR (k2 := 43) X hW zC7 zR_42_1 (by decide) rfl zl_X9_7 dX9_grow_40 ?_
        refine lv_iload_n hx hb0 dX9_grow_43 rfl (lv_at hl 2 rfl) ?_
        obtain ⟨g_44, hw⟩ := hw
        refine z_iald X hW zI_43 g_44 dX9_grow_44 ?_
        exact mX9_grow_45 X post hret K2 hK2 M_15 L_15 v1 v2 (M_15 43 v2.toNatClampNeg) v2 _ _ ls hw hW (lv_sub hl [0, 1, 2] rfl)
      · replace hw := hw.2 c_18
        refine lv_aload_n hx hb0 dX9_grow_21 rfl (lv_at hl 0 rfl) ?_
        refine z_getR (k2 := 43) X hW zC7 zR_42_1 (by decide) rfl zl_X9_7 dX9_grow_22 ?_
        refine lv_iload_n hx hb0 dX9_grow_25 rfl (lv_at hl 2 rfl) ?_
        obtain ⟨g_26, hw⟩ := hw
        refine z_iald X hW zI_43 g_26 dX9_grow_26 ?_
        refine lv_aload_n hx hb0 dX9_grow_27 rfl (lv_at hl 0 rfl) ?_
        refine z_getR (k2 := 50) X hW zC7 zR_42_8 (by decide) rfl zl_X9_31 dX9_grow_28 ?_
        refine lv_iload_n hx hb0 dX9_grow_31 rfl (lv_at hl 1 rfl) ?_
        obtain ⟨g_32, hw⟩ := hw
        refine z_iald X hW zI_50 g_32 dX9_grow_32 ?_
        refine z_Si X zc_X9_grown zt_X9_grown zl_X9_144 rfl ⟨rfl, rfl⟩ ⟨Nat.le_of_ble_eq_true rfl, Nat.le_of_ble_eq_true rfl⟩ (kX9_grown l D cy ad X.2.2.2.1 (M_15 43 v2.toNatClampNeg) (M_15 50 v1.toNatClampNeg)) hW hw hl.1 rfl rfl (Nat.le_of_ble_eq_true rfl) dX9_grow_33 (fun r_33 M_33 L_33 H_33 locs_33 hw hW => ?_)
        refine lv_goto (tgt := 45) hx hb0 dX9_grow_36 (by decide) ?_
        exact mX9_grow_45 X post hret K2 hK2 M_33 L_33 v1 v2 r_33 v2 _ _ ls hw hW (lv_sub hl [0, 1, 2] rfl)
set_option maxRecDepth 20000 in
set_option maxHeartbeats 4000000 in
theorem mX9_grow {p : Program} {l : Launch} {e : Env} {s : State} {m : MethodId} {args : Array Value} {below : List Frame} {meth : Method} {c : Code} {cells slots : Nat} {Q : State → Prop} {D : va_G} {cy : Nat → ClassId} {ad : Nat → Nat} {A : Nat → Prop} (X : zCx p rmX9_grow s m args c cells slots cX9_grow 3 RX9 D cy ad A) (post : Mm → Ml → Prop) (hret : zRv p l e rmX9_grow s m args below meth c cells slots Q cX9_grow D cy ad A post) : ∀ (M : Mm) (L : Ml) (x1 : Int32) (H : Heap) (locs : List Loc) (ls : Array Slot), wpX9_grow x1 M L post → zWd D cy ad A s H locs M L → lv_has ls 3 [(0, .ref (ad 42)), (1, .int x1)] → W p l e rmX9_grow s m args below meth c H locs cells slots Q (F0 m 0 ls []) := by
  have hx := X.1.1; have hb0 := X.1.2.1; have hts := X.1.2.2.2.2
  intro M L x1 H locs ls hw hW hl
  unfold wpX9_grow at hw
  refine lv_iconst (v := (0 : Int32)) hx hb0 dX9_grow_0 (by decide) ?_
  refine lv_istore_n (lv' := [(2, .int (0 : Int32)), (0, .ref (ad 42)), (1, .int x1)]) hx hb0 dX9_grow_1 rfl hl (by decide) rfl (fun ls hl => ?_)
  obtain ⟨n_2, hw⟩ := hw
  exact mX9_grow_2 X post hret n_2 M L x1 (0 : Int32) _ _ ls hw hW (lv_sub hl [1, 2, 0] rfl)
theorem kX9_grow (l : Launch) (D : va_G) (cy : Nat → ClassId) (ad : Nat → Nat) (hi : zInj ad) (x1 : Int32) : zMv l yX9_grow (.code yX9_grow cX9_grow 3 none :: zG) rmX9_grow D cy ad [.ref (ad 42), .int x1] (wpX9_grow x1) :=
  zMv_of (by decide +kernel) (Nat.le_of_ble_eq_true rfl) hi (fun X M L post _ hret ls hl hw hW => mX9_grow X post hret M L x1 _ _ ls hw hW hl)
abbrev rmX9_blowOne : Room := { frames := 1, cells := 0, slots := 0, locals := 25 }
set_option maxRecDepth 20000 in
set_option maxHeartbeats 4000000 in
theorem mX9_blowOne_57 {p : Program} {l : Launch} {e : Env} {s : State} {m : MethodId} {args : Array Value} {below : List Frame} {meth : Method} {c : Code} {cells slots : Nat} {Q : State → Prop} {D : va_G} {cy : Nat → ClassId} {ad : Nat → Nat} {A : Nat → Prop} (X : zCx p rmX9_blowOne s m args c cells slots cX9_blowOne 5 RX9 D cy ad A) (post : Mm → Ml → Prop) (hret : zRv p l e rmX9_blowOne s m args below meth c cells slots Q cX9_blowOne D cy ad A post) : ∀ (M : Mm) (L : Ml) (s0 : Int32) (s1 : Int32) (H : Heap) (locs : List Loc) (ls : Array Slot), wpX9_blowOne_57 post M L s0 s1 → zWd D cy ad A s H locs M L → lv_has ls 5 [] → W p l e rmX9_blowOne s m args below meth c H locs cells slots Q (F0 m 57 ls [.int s0, .int s1, .ref (ad 45)]) := by
  have hx := X.1.1; have hb0 := X.1.2.1; have hts := X.1.2.2.2.2
  intro M L s0 s1 H locs ls hw hW hl
  unfold wpX9_blowOne_57 at hw
  obtain ⟨g_57, hw⟩ := hw
  refine z_iast X hW zI_45 g_57 dX9_blowOne_57 (fun M_57 H_57 locs_57 e_57 hW => ?_)
  replace hw := hw M_57 e_57
  exact hret _ ls _ _ M_57 L dX9_blowOne_58 hw hW
set_option maxRecDepth 20000 in
set_option maxHeartbeats 4000000 in
theorem mX9_blowOne_36 {p : Program} {l : Launch} {e : Env} {s : State} {m : MethodId} {args : Array Value} {below : List Frame} {meth : Method} {c : Code} {cells slots : Nat} {Q : State → Prop} {D : va_G} {cy : Nat → ClassId} {ad : Nat → Nat} {A : Nat → Prop} (X : zCx p rmX9_blowOne s m args c cells slots cX9_blowOne 5 RX9 D cy ad A) (post : Mm → Ml → Prop) (hret : zRv p l e rmX9_blowOne s m args below meth c cells slots Q cX9_blowOne D cy ad A post) : ∀ (M : Mm) (L : Ml) (v1 : Int32) (v4 : Int32) (s0 : Int32) (s1 : Int32) (H : Heap) (locs : List Loc) (ls : Array Slot), wpX9_blowOne_36 post M L v1 v4 s0 s1 → zWd D cy ad A s H locs M L → lv_has ls 5 [(0, .ref (ad 42)), (1, .int v1), (4, .int v4)] → W p l e rmX9_blowOne s m args below meth c H locs cells slots Q (F0 m 36 ls [.int s0, .int s1, .ref (ad 44)]) := by
  have hx := X.1.1; have hb0 := X.1.2.1; have hts := X.1.2.2.2.2
  intro M L v1 v4 s0 s1 H locs ls hw hW hl
  unfold wpX9_blowOne_36 at hw
  obtain ⟨g_36, hw⟩ := hw
  refine z_iast X hW zI_44 g_36 dX9_blowOne_36 (fun M_36 H_36 locs_36 e_36 hW => ?_)
  replace hw := hw M_36 e_36
  refine lv_aload_n hx hb0 dX9_blowOne_37 rfl (lv_at hl 0 rfl) ?_
  refine z_getR (k2 := 45) X hW zC7 zR_42_3 (by decide) rfl zl_X9_16 dX9_blowOne_38 ?_
  refine lv_iload_n hx hb0 dX9_blowOne_41 rfl (lv_at hl 1 rfl) ?_
  refine lv_iload hx hb0 dX9_blowOne_42 (lv_at hl 2 rfl) ?_
  refine lv_if_eq (tgt := 56) hx hb0 dX9_blowOne_44 (by decide) (fun c_44 => ?_) (fun c_44 => ?_)
  · replace hw := hw.1 c_44
    refine lv_iconst (v := (0 : Int32)) hx hb0 dX9_blowOne_56 (by decide) ?_
    exact mX9_blowOne_57 X post hret M_36 L (0 : Int32) v1 _ _ ls hw hW (lv_sub hl [] rfl)
  · replace hw := hw.2 c_44
    refine lv_aload_n hx hb0 dX9_blowOne_47 rfl (lv_at hl 0 rfl) ?_
    refine z_getR (k2 := 45) X hW zC7 zR_42_3 (by decide) rfl zl_X9_16 dX9_blowOne_48 ?_
    refine lv_iload_n hx hb0 dX9_blowOne_51 rfl (lv_at hl 1 rfl) ?_
    obtain ⟨g_52, hw⟩ := hw
    refine z_iald X hW zI_45 g_52 dX9_blowOne_52 ?_
    refine lv_goto (tgt := 57) hx hb0 dX9_blowOne_53 (by decide) ?_
    exact mX9_blowOne_57 X post hret M_36 L (M_36 45 v1.toNatClampNeg) v1 _ _ ls hw hW (lv_sub hl [] rfl)
set_option maxRecDepth 20000 in
set_option maxHeartbeats 4000000 in
theorem mX9_blowOne {p : Program} {l : Launch} {e : Env} {s : State} {m : MethodId} {args : Array Value} {below : List Frame} {meth : Method} {c : Code} {cells slots : Nat} {Q : State → Prop} {D : va_G} {cy : Nat → ClassId} {ad : Nat → Nat} {A : Nat → Prop} (X : zCx p rmX9_blowOne s m args c cells slots cX9_blowOne 5 RX9 D cy ad A) (post : Mm → Ml → Prop) (hret : zRv p l e rmX9_blowOne s m args below meth c cells slots Q cX9_blowOne D cy ad A post) : ∀ (M : Mm) (L : Ml) (x1 : Int32) (x2 : Int32) (H : Heap) (locs : List Loc) (ls : Array Slot), wpX9_blowOne x1 x2 M L post → zWd D cy ad A s H locs M L → lv_has ls 5 [(0, .ref (ad 42)), (1, .int x1), (2, .int x2)] → W p l e rmX9_blowOne s m args below meth c H locs cells slots Q (F0 m 0 ls []) := by
  have hx := X.1.1; have hb0 := X.1.2.1; have hts := X.1.2.2.2.2
  intro M L x1 x2 H locs ls hw hW hl
  unfold wpX9_blowOne at hw
  refine lv_aload_n hx hb0 dX9_blowOne_0 rfl (lv_at hl 0 rfl) ?_
  refine z_getR (k2 := 44) X hW zC7 zR_42_2 (by decide) rfl zl_X9_13 dX9_blowOne_1 ?_
  refine lv_iload_n hx hb0 dX9_blowOne_4 rfl (lv_at hl 1 rfl) ?_
  obtain ⟨g_5, hw⟩ := hw
  refine z_iald X hW zI_44 g_5 dX9_blowOne_5 ?_
  refine lv_iload_n hx hb0 dX9_blowOne_6 rfl (lv_at hl 2 rfl) ?_
  refine lv_iadd hx hb0 dX9_blowOne_7 ?_
  refine lv_topi (fun a_8 e_8 => ?_)
  replace hw := hw a_8 e_8
  refine lv_istore_n (lv' := [(3, .int a_8), (0, .ref (ad 42)), (1, .int x1), (2, .int x2)]) hx hb0 dX9_blowOne_8 rfl hl (by decide) rfl (fun ls hl => ?_)
  refine lv_iload_n hx hb0 dX9_blowOne_9 rfl (lv_at hl 0 rfl) ?_
  refine lv_i2l hx hb0 dX9_blowOne_10 rfl ?_
  refine lv_lconst (v := (0 : Int64)) hx hb0 dX9_blowOne_11 (by decide) ?_
  refine lv_ldc2 (v := (15 : Int64)) hx hb0 X.1.2.2.2.1 (hts _ zk_X9_105) dX9_blowOne_12 ?_
  refine z_Si X zc_X9_in zt_X9_in zl_X9_86 rfl ⟨rfl, rfl⟩ ⟨Nat.le_of_ble_eq_true rfl, Nat.le_of_ble_eq_true rfl⟩ (kX9_in l D cy ad X.2.2.2.1 (a_8.toInt64) (0 : Int64) (15 : Int64)) hW hw hl.1 rfl rfl (Nat.le_of_ble_eq_true rfl) dX9_blowOne_15 (fun r_15 M_15 L_15 H_15 locs_15 hw hW => ?_)
  refine lv_istore (lv' := [(4, .int r_15), (3, .int a_8), (0, .ref (ad 42)), (1, .int x1), (2, .int x2)]) hx hb0 dX9_blowOne_18 hl (by decide) rfl (fun ls hl => ?_)
  refine lv_aload_n hx hb0 dX9_blowOne_20 rfl (lv_at hl 2 rfl) ?_
  refine z_getR (k2 := 44) X hW zC7 zR_42_2 (by decide) rfl zl_X9_13 dX9_blowOne_21 ?_
  refine lv_iload_n hx hb0 dX9_blowOne_24 rfl (lv_at hl 3 rfl) ?_
  refine lv_iload hx hb0 dX9_blowOne_25 (lv_at hl 0 rfl) ?_
  refine lv_if_eq (tgt := 34) hx hb0 dX9_blowOne_27 (by decide) (fun c_27 => ?_) (fun c_27 => ?_)
  · replace hw := hw.1 c_27
    refine lv_bipush (v := (-6 : Int32)) hx hb0 dX9_blowOne_34 (by decide) ?_
    exact mX9_blowOne_36 X post hret M_15 L_15 x1 r_15 (-6 : Int32) x1 _ _ ls hw hW (lv_sub hl [2, 3, 0] rfl)
  · replace hw := hw.2 c_27
    refine lv_iload_n hx hb0 dX9_blowOne_30 rfl (lv_at hl 1 rfl) ?_
    refine lv_goto (tgt := 36) hx hb0 dX9_blowOne_31 (by decide) ?_
    exact mX9_blowOne_36 X post hret M_15 L_15 x1 r_15 a_8 x1 _ _ ls hw hW (lv_sub hl [2, 3, 0] rfl)
theorem kX9_blowOne (l : Launch) (D : va_G) (cy : Nat → ClassId) (ad : Nat → Nat) (hi : zInj ad) (x1 : Int32) (x2 : Int32) : zMv l yX9_blowOne (.code yX9_blowOne cX9_blowOne 5 none :: zG) rmX9_blowOne D cy ad [.ref (ad 42), .int x1, .int x2] (wpX9_blowOne x1 x2) :=
  zMv_of (by decide +kernel) (Nat.le_of_ble_eq_true rfl) hi (fun X M L post _ hret ls hl hw hW => mX9_blowOne X post hret M L x1 x2 _ _ ls hw hW hl)
abbrev rmX9_blow : Room := { frames := 3, cells := 0, slots := 0, locals := 67 }
set_option maxRecDepth 20000 in
set_option maxHeartbeats 4000000 in
theorem mX9_blow_22 {p : Program} {l : Launch} {e : Env} {s : State} {m : MethodId} {args : Array Value} {below : List Frame} {meth : Method} {c : Code} {cells slots : Nat} {Q : State → Prop} {D : va_G} {cy : Nat → ClassId} {ad : Nat → Nat} {A : Nat → Prop} (X : zCx p rmX9_blow s m args c cells slots cX9_blow 3 RX9 D cy ad A) (post : Mm → Ml → Prop) (hret : zRv p l e rmX9_blow s m args below meth c cells slots Q cX9_blow D cy ad A post) (K2 : Mm → Ml → Int32 → Int32 → Prop) (hK2 : ∀ (M : Mm) (L : Ml) (v1 : Int32) (v2 : Int32) (H : Heap) (locs : List Loc) (ls : Array Slot), K2 M L v1 v2 → zWd D cy ad A s H locs M L → lv_has ls 3 [(0, .ref (ad 42)), (1, .int v1), (2, .int v2)] → W p l e rmX9_blow s m args below meth c H locs cells slots Q (F0 m 2 ls [])) : ∀ (M : Mm) (L : Ml) (v1 : Int32) (v2 : Int32) (H : Heap) (locs : List Loc) (ls : Array Slot), wpX9_blow_22 post K2 M L v1 v2 → zWd D cy ad A s H locs M L → lv_has ls 3 [(0, .ref (ad 42)), (1, .int v1), (2, .int v2)] → W p l e rmX9_blow s m args below meth c H locs cells slots Q (F0 m 22 ls []) := by
  have hx := X.1.1; have hb0 := X.1.2.1; have hts := X.1.2.2.2.2
  intro M L v1 v2 H locs ls hw hW hl
  unfold wpX9_blow_22 at hw
  obtain ⟨a_22, e_22⟩ : ∃ y : Int32, y = v2 + (1 : Int32) := ⟨_, rfl⟩
  replace hw := hw a_22 e_22
  refine lv_iinc (v := a_22) (lv' := [(2, .int a_22), (0, .ref (ad 42)), (1, .int v1)]) hx hb0 dX9_blow_22 hl (k := 2) rfl (by rw [e_22]; rfl) (by decide) rfl (fun ls hl => ?_)
  refine lv_goto (tgt := 2) hx hb0 dX9_blow_25 (by decide) ?_
  exact hK2 M L v1 a_22 _ _ ls hw hW (lv_sub hl [1, 2, 0] rfl)
set_option maxRecDepth 20000 in
set_option maxHeartbeats 4000000 in
theorem mX9_blow_2 {p : Program} {l : Launch} {e : Env} {s : State} {m : MethodId} {args : Array Value} {below : List Frame} {meth : Method} {c : Code} {cells slots : Nat} {Q : State → Prop} {D : va_G} {cy : Nat → ClassId} {ad : Nat → Nat} {A : Nat → Prop} (X : zCx p rmX9_blow s m args c cells slots cX9_blow 3 RX9 D cy ad A) (post : Mm → Ml → Prop) (hret : zRv p l e rmX9_blow s m args below meth c cells slots Q cX9_blow D cy ad A post) : ∀ (j9 : Nat) (M : Mm) (L : Ml) (v1 : Int32) (v2 : Int32) (H : Heap) (locs : List Loc) (ls : Array Slot), wlX9_blow_2 post j9 (M, L, v1, v2) → zWd D cy ad A s H locs M L → lv_has ls 3 [(0, .ref (ad 42)), (1, .int v1), (2, .int v2)] → W p l e rmX9_blow s m args below meth c H locs cells slots Q (F0 m 2 ls []) := by
  have hx := X.1.1; have hb0 := X.1.2.1; have hts := X.1.2.2.2.2
  intro j9
  induction j9 with
  | zero => intro M L v1 v2 H locs ls hw; exact hw.elim
  | succ j9 ih =>
    obtain ⟨K2, hKe⟩ : ∃ K : Mm → Ml → Int32 → Int32 → Prop, K = fun M L v1 v2 => wlX9_blow_2 post j9 (M, L, v1, v2) := ⟨_, rfl⟩
    have hK2 : ∀ (M : Mm) (L : Ml) (v1 : Int32) (v2 : Int32) (H : Heap) (locs : List Loc) (ls : Array Slot), K2 M L v1 v2 → zWd D cy ad A s H locs M L → lv_has ls 3 [(0, .ref (ad 42)), (1, .int v1), (2, .int v2)] → W p l e rmX9_blow s m args below meth c H locs cells slots Q (F0 m 2 ls []) := by intro M L v1 v2 H locs ls hw; rw [hKe] at hw; exact ih M L v1 v2 H locs ls hw
    intro M L v1 v2 H locs ls hw hW hl
    have hw : wpX9_blow_2 post K2 M L v1 v2 := by rw [hKe]; exact hw
    clear ih
    unfold wpX9_blow_2 at hw
    refine lv_iload_n hx hb0 dX9_blow_2 rfl (lv_at hl 2 rfl) ?_
    refine lv_bipush (v := (8 : Int32)) hx hb0 dX9_blow_3 (by decide) ?_
    refine lv_icmp_ge (tgt := 28) hx hb0 dX9_blow_5 (by decide) (fun c_5 => ?_) (fun c_5 => ?_)
    · replace hw := hw.1 c_5
      exact hret _ ls _ _ M L dX9_blow_28 hw hW
    · replace hw := hw.2 c_5
      refine lv_aload_n hx hb0 dX9_blow_8 rfl (lv_at hl 0 rfl) ?_
      refine lv_iload_n hx hb0 dX9_blow_9 rfl (lv_at hl 2 rfl) ?_
      refine z_Vi X zO_42 zC7 zc_X9_isAbove zs_X9_isAbove zl_X9_137 rfl ⟨rfl, rfl⟩ ⟨Nat.le_of_ble_eq_true rfl, Nat.le_of_ble_eq_true rfl⟩ (kX9_isAbove l D cy ad X.2.2.2.1 v2) hW hw hl.1 rfl rfl (Nat.le_of_ble_eq_true rfl) dX9_blow_10 (fun r_10 M_10 L_10 H_10 locs_10 hw hW => ?_)
      refine lv_if_eq (tgt := 22) hx hb0 dX9_blow_13 (by decide) (fun c_13 => ?_) (fun c_13 => ?_)
      · replace hw := hw.1 c_13
        exact mX9_blow_22 X post hret K2 hK2 M_10 L_10 v1 v2 _ _ ls hw hW (lv_sub hl [0, 1, 2] rfl)
      · replace hw := hw.2 c_13
        refine lv_aload_n hx hb0 dX9_blow_16 rfl (lv_at hl 0 rfl) ?_
        refine lv_iload_n hx hb0 dX9_blow_17 rfl (lv_at hl 2 rfl) ?_
        refine lv_iload_n hx hb0 dX9_blow_18 rfl (lv_at hl 1 rfl) ?_
        refine z_Vv X zO_42 zC7 zc_X9_blowOne zs_X9_blowOne zl_X9_147 rfl ⟨rfl, rfl⟩ ⟨Nat.le_of_ble_eq_true rfl, Nat.le_of_ble_eq_true rfl⟩ (kX9_blowOne l D cy ad X.2.2.2.1 v2 v1) hW hw hl.1 rfl rfl (Nat.le_of_ble_eq_true rfl) dX9_blow_19 (fun M_19 L_19 H_19 locs_19 hw hW => ?_)
        exact mX9_blow_22 X post hret K2 hK2 M_19 L_19 v1 v2 _ _ ls hw hW (lv_sub hl [0, 1, 2] rfl)
set_option maxRecDepth 20000 in
set_option maxHeartbeats 4000000 in
theorem mX9_blow {p : Program} {l : Launch} {e : Env} {s : State} {m : MethodId} {args : Array Value} {below : List Frame} {meth : Method} {c : Code} {cells slots : Nat} {Q : State → Prop} {D : va_G} {cy : Nat → ClassId} {ad : Nat → Nat} {A : Nat → Prop} (X : zCx p rmX9_blow s m args c cells slots cX9_blow 3 RX9 D cy ad A) (post : Mm → Ml → Prop) (hret : zRv p l e rmX9_blow s m args below meth c cells slots Q cX9_blow D cy ad A post) : ∀ (M : Mm) (L : Ml) (x1 : Int32) (H : Heap) (locs : List Loc) (ls : Array Slot), wpX9_blow x1 M L post → zWd D cy ad A s H locs M L → lv_has ls 3 [(0, .ref (ad 42)), (1, .int x1)] → W p l e rmX9_blow s m args below meth c H locs cells slots Q (F0 m 0 ls []) := by
  have hx := X.1.1; have hb0 := X.1.2.1; have hts := X.1.2.2.2.2
  intro M L x1 H locs ls hw hW hl
  unfold wpX9_blow at hw
  refine lv_iconst (v := (0 : Int32)) hx hb0 dX9_blow_0 (by decide) ?_
  refine lv_istore_n (lv' := [(2, .int (0 : Int32)), (0, .ref (ad 42)), (1, .int x1)]) hx hb0 dX9_blow_1 rfl hl (by decide) rfl (fun ls hl => ?_)
  obtain ⟨n_2, hw⟩ := hw
  exact mX9_blow_2 X post hret n_2 M L x1 (0 : Int32) _ _ ls hw hW (lv_sub hl [1, 2, 0] rfl)
theorem kX9_blow (l : Launch) (D : va_G) (cy : Nat → ClassId) (ad : Nat → Nat) (hi : zInj ad) (x1 : Int32) : zMv l yX9_blow (.code yX9_blow cX9_blow 3 none :: zG) rmX9_blow D cy ad [.ref (ad 42), .int x1] (wpX9_blow x1) :=
  zMv_of (by decide +kernel) (Nat.le_of_ble_eq_true rfl) hi (fun X M L post _ hret ls hl hw hW => mX9_blow X post hret M L x1 _ _ ls hw hW hl)
abbrev rmX9_comeDown : Room := { frames := 0, cells := 0, slots := 0, locals := 0 }
set_option maxRecDepth 20000 in
set_option maxHeartbeats 4000000 in
theorem mX9_comeDown_55 {p : Program} {l : Launch} {e : Env} {s : State} {m : MethodId} {args : Array Value} {below : List Frame} {meth : Method} {c : Code} {cells slots : Nat} {Q : State → Prop} {D : va_G} {cy : Nat → ClassId} {ad : Nat → Nat} {A : Nat → Prop} (X : zCx p rmX9_comeDown s m args c cells slots cX9_comeDown 3 RX9 D cy ad A) (post : Mm → Ml → Prop) (hret : zRv p l e rmX9_comeDown s m args below meth c cells slots Q cX9_comeDown D cy ad A post) (K12 : Mm → Ml → Int32 → Int32 → Prop) (hK12 : ∀ (M : Mm) (L : Ml) (v1 : Int32) (v2 : Int32) (H : Heap) (locs : List Loc) (ls : Array Slot), K12 M L v1 v2 → zWd D cy ad A s H locs M L → lv_has ls 3 [(0, .ref (ad 42)), (1, .int v1), (2, .int v2)] → W p l e rmX9_comeDown s m args below meth c H locs cells slots Q (F0 m 12 ls [])) : ∀ (M : Mm) (L : Ml) (v1 : Int32) (v2 : Int32) (s0 : Int32) (s1 : Int32) (H : Heap) (locs : List Loc) (ls : Array Slot), wpX9_comeDown_55 post K12 M L v1 v2 s0 s1 → zWd D cy ad A s H locs M L → lv_has ls 3 [(0, .ref (ad 42)), (1, .int v1), (2, .int v2)] → W p l e rmX9_comeDown s m args below meth c H locs cells slots Q (F0 m 55 ls [.int s0, .int s1, .ref (ad 47)]) := by
  have hx := X.1.1; have hb0 := X.1.2.1; have hts := X.1.2.2.2.2
  intro M L v1 v2 s0 s1 H locs ls hw hW hl
  unfold wpX9_comeDown_55 at hw
  obtain ⟨g_55, hw⟩ := hw
  refine z_iast X hW zI_47 g_55 dX9_comeDown_55 (fun M_55 H_55 locs_55 e_55 hW => ?_)
  replace hw := hw M_55 e_55
  obtain ⟨a_56, e_56⟩ : ∃ y : Int32, y = v2 + (-1 : Int32) := ⟨_, rfl⟩
  replace hw := hw a_56 e_56
  refine lv_iinc (v := a_56) (lv' := [(2, .int a_56), (0, .ref (ad 42)), (1, .int v1)]) hx hb0 dX9_comeDown_56 hl (k := 2) rfl (by rw [e_56]; rfl) (by decide) rfl (fun ls hl => ?_)
  refine lv_goto (tgt := 12) hx hb0 dX9_comeDown_59 (by decide) ?_
  exact hK12 M_55 L v1 a_56 _ _ ls hw hW (lv_sub hl [1, 2, 0] rfl)
set_option maxRecDepth 20000 in
set_option maxHeartbeats 4000000 in
theorem mX9_comeDown_49 {p : Program} {l : Launch} {e : Env} {s : State} {m : MethodId} {args : Array Value} {below : List Frame} {meth : Method} {c : Code} {cells slots : Nat} {Q : State → Prop} {D : va_G} {cy : Nat → ClassId} {ad : Nat → Nat} {A : Nat → Prop} (X : zCx p rmX9_comeDown s m args c cells slots cX9_comeDown 3 RX9 D cy ad A) (post : Mm → Ml → Prop) (hret : zRv p l e rmX9_comeDown s m args below meth c cells slots Q cX9_comeDown D cy ad A post) (K12 : Mm → Ml → Int32 → Int32 → Prop) (hK12 : ∀ (M : Mm) (L : Ml) (v1 : Int32) (v2 : Int32) (H : Heap) (locs : List Loc) (ls : Array Slot), K12 M L v1 v2 → zWd D cy ad A s H locs M L → lv_has ls 3 [(0, .ref (ad 42)), (1, .int v1), (2, .int v2)] → W p l e rmX9_comeDown s m args below meth c H locs cells slots Q (F0 m 12 ls [])) : ∀ (M : Mm) (L : Ml) (v1 : Int32) (v2 : Int32) (s0 : Int32) (H : Heap) (locs : List Loc) (ls : Array Slot), wpX9_comeDown_49 post K12 M L v1 v2 s0 → zWd D cy ad A s H locs M L → lv_has ls 3 [(0, .ref (ad 42)), (1, .int v1), (2, .int v2)] → W p l e rmX9_comeDown s m args below meth c H locs cells slots Q (F0 m 49 ls [.int s0, .ref (ad 47)]) := by
  have hx := X.1.1; have hb0 := X.1.2.1; have hts := X.1.2.2.2.2
  intro M L v1 v2 s0 H locs ls hw hW hl
  unfold wpX9_comeDown_49 at hw
  refine lv_aload_n hx hb0 dX9_comeDown_49 rfl (lv_at hl 0 rfl) ?_
  refine z_getR (k2 := 47) X hW zC7 zR_42_5 (by decide) rfl zl_X9_22 dX9_comeDown_50 ?_
  refine lv_iload_n hx hb0 dX9_comeDown_53 rfl (lv_at hl 1 rfl) ?_
  obtain ⟨g_54, hw⟩ := hw
  refine z_iald X hW zI_47 g_54 dX9_comeDown_54 ?_
  exact mX9_comeDown_55 X post hret K12 hK12 M L v1 v2 (M 47 v1.toNatClampNeg) s0 _ _ ls hw hW (lv_sub hl [0, 1, 2] rfl)
set_option maxRecDepth 20000 in
set_option maxHeartbeats 4000000 in
theorem mX9_comeDown_92 {p : Program} {l : Launch} {e : Env} {s : State} {m : MethodId} {args : Array Value} {below : List Frame} {meth : Method} {c : Code} {cells slots : Nat} {Q : State → Prop} {D : va_G} {cy : Nat → ClassId} {ad : Nat → Nat} {A : Nat → Prop} (X : zCx p rmX9_comeDown s m args c cells slots cX9_comeDown 3 RX9 D cy ad A) (post : Mm → Ml → Prop) (hret : zRv p l e rmX9_comeDown s m args below meth c cells slots Q cX9_comeDown D cy ad A post) : ∀ (M : Mm) (L : Ml) (H : Heap) (locs : List Loc) (ls : Array Slot), wpX9_comeDown_92 post M L → zWd D cy ad A s H locs M L → lv_has ls 3 [] → W p l e rmX9_comeDown s m args below meth c H locs cells slots Q (F0 m 92 ls []) := by
  have hx := X.1.1; have hb0 := X.1.2.1; have hts := X.1.2.2.2.2
  intro M L H locs ls hw hW hl
  unfold wpX9_comeDown_92 at hw
  exact hret _ ls _ _ M L dX9_comeDown_92 hw hW
set_option maxRecDepth 20000 in
set_option maxHeartbeats 4000000 in
theorem mX9_comeDown_12 {p : Program} {l : Launch} {e : Env} {s : State} {m : MethodId} {args : Array Value} {below : List Frame} {meth : Method} {c : Code} {cells slots : Nat} {Q : State → Prop} {D : va_G} {cy : Nat → ClassId} {ad : Nat → Nat} {A : Nat → Prop} (X : zCx p rmX9_comeDown s m args c cells slots cX9_comeDown 3 RX9 D cy ad A) (post : Mm → Ml → Prop) (hret : zRv p l e rmX9_comeDown s m args below meth c cells slots Q cX9_comeDown D cy ad A post) : ∀ (j9 : Nat) (M : Mm) (L : Ml) (v1 : Int32) (v2 : Int32) (H : Heap) (locs : List Loc) (ls : Array Slot), wlX9_comeDown_12 post j9 (M, L, v1, v2) → zWd D cy ad A s H locs M L → lv_has ls 3 [(0, .ref (ad 42)), (1, .int v1), (2, .int v2)] → W p l e rmX9_comeDown s m args below meth c H locs cells slots Q (F0 m 12 ls []) := by
  have hx := X.1.1; have hb0 := X.1.2.1; have hts := X.1.2.2.2.2
  intro j9
  induction j9 with
  | zero => intro M L v1 v2 H locs ls hw; exact hw.elim
  | succ j9 ih =>
    obtain ⟨K12, hKe⟩ : ∃ K : Mm → Ml → Int32 → Int32 → Prop, K = fun M L v1 v2 => wlX9_comeDown_12 post j9 (M, L, v1, v2) := ⟨_, rfl⟩
    have hK12 : ∀ (M : Mm) (L : Ml) (v1 : Int32) (v2 : Int32) (H : Heap) (locs : List Loc) (ls : Array Slot), K12 M L v1 v2 → zWd D cy ad A s H locs M L → lv_has ls 3 [(0, .ref (ad 42)), (1, .int v1), (2, .int v2)] → W p l e rmX9_comeDown s m args below meth c H locs cells slots Q (F0 m 12 ls []) := by intro M L v1 v2 H locs ls hw; rw [hKe] at hw; exact ih M L v1 v2 H locs ls hw
    intro M L v1 v2 H locs ls hw hW hl
    have hw : wpX9_comeDown_12 post K12 M L v1 v2 := by rw [hKe]; exact hw
    clear ih
    unfold wpX9_comeDown_12 at hw
    refine lv_iload_n hx hb0 dX9_comeDown_12 rfl (lv_at hl 2 rfl) ?_
    refine lv_if_lt (tgt := 62) hx hb0 dX9_comeDown_13 (by decide) (fun c_13 => ?_) (fun c_13 => ?_)
    · replace hw := hw.1 c_13
      refine lv_aload_n hx hb0 dX9_comeDown_62 rfl (lv_at hl 0 rfl) ?_
      refine z_getR (k2 := 47) X hW zC7 zR_42_5 (by decide) rfl zl_X9_22 dX9_comeDown_63 ?_
      refine lv_iload_n hx hb0 dX9_comeDown_66 rfl (lv_at hl 1 rfl) ?_
      obtain ⟨g_67, hw⟩ := hw
      refine z_iald X hW zI_47 g_67 dX9_comeDown_67 ?_
      refine lv_aload_n hx hb0 dX9_comeDown_68 rfl (lv_at hl 0 rfl) ?_
      refine z_getR (k2 := 46) X hW zC7 zR_42_4 (by decide) rfl zl_X9_19 dX9_comeDown_69 ?_
      refine lv_iload_n hx hb0 dX9_comeDown_72 rfl (lv_at hl 1 rfl) ?_
      obtain ⟨g_73, hw⟩ := hw
      refine z_iald X hW zI_46 g_73 dX9_comeDown_73 ?_
      refine lv_icmp_ne (tgt := 92) hx hb0 dX9_comeDown_74 (by decide) (fun c_74 => ?_) (fun c_74 => ?_)
      · replace hw := hw.1 c_74
        exact mX9_comeDown_92 X post hret M L _ _ ls hw hW (lv_sub hl [] rfl)
      · replace hw := hw.2 c_74
        refine lv_aload_n hx hb0 dX9_comeDown_77 rfl (lv_at hl 0 rfl) ?_
        refine z_getI X hW zC7 zF_42_18 (by decide) rfl zl_X9_154 dX9_comeDown_78 ?_
        refine lv_if_ge (tgt := 92) hx hb0 dX9_comeDown_81 (by decide) (fun c_81 => ?_) (fun c_81 => ?_)
        · replace hw := hw.1 c_81
          exact mX9_comeDown_92 X post hret M L _ _ ls hw hW (lv_sub hl [] rfl)
        · replace hw := hw.2 c_81
          refine lv_aload_n hx hb0 dX9_comeDown_84 rfl (lv_at hl 0 rfl) ?_
          refine lv_aload_n hx hb0 dX9_comeDown_85 rfl (lv_at hl 0 rfl) ?_
          refine z_getI X hW zC7 zF_42_19 (by decide) rfl zl_X9_157 dX9_comeDown_86 ?_
          refine z_put (ty := .int) X hW zC7 zF_42_18 (by decide) rfl zl_X9_154 rfl (by decide +kernel) rfl rfl dX9_comeDown_89 (fun M_89 H_89 locs_89 e_89 hW => ?_)
          replace hw := hw M_89 e_89
          exact mX9_comeDown_92 X post hret M_89 L _ _ ls hw hW (lv_sub hl [] rfl)
    · replace hw := hw.2 c_13
      refine lv_aload_n hx hb0 dX9_comeDown_16 rfl (lv_at hl 0 rfl) ?_
      refine z_getR (k2 := 47) X hW zC7 zR_42_5 (by decide) rfl zl_X9_22 dX9_comeDown_17 ?_
      refine lv_iload_n hx hb0 dX9_comeDown_20 rfl (lv_at hl 1 rfl) ?_
      refine lv_aload_n hx hb0 dX9_comeDown_21 rfl (lv_at hl 0 rfl) ?_
      refine z_getR (k2 := 48) X hW zC7 zR_42_6 (by decide) rfl zl_X9_25 dX9_comeDown_22 ?_
      refine lv_iload_n hx hb0 dX9_comeDown_25 rfl (lv_at hl 2 rfl) ?_
      obtain ⟨g_26, hw⟩ := hw
      refine z_iald X hW zI_48 g_26 dX9_comeDown_26 ?_
      refine lv_aload_n hx hb0 dX9_comeDown_27 rfl (lv_at hl 0 rfl) ?_
      refine z_getR (k2 := 44) X hW zC7 zR_42_2 (by decide) rfl zl_X9_13 dX9_comeDown_28 ?_
      refine lv_iload_n hx hb0 dX9_comeDown_31 rfl (lv_at hl 1 rfl) ?_
      obtain ⟨g_32, hw⟩ := hw
      refine z_iald X hW zI_44 g_32 dX9_comeDown_32 ?_
      refine lv_icmp_ne (tgt := 49) hx hb0 dX9_comeDown_33 (by decide) (fun c_33 => ?_) (fun c_33 => ?_)
      · replace hw := hw.1 c_33
        exact mX9_comeDown_49 X post hret K12 hK12 M L v1 v2 v1 _ _ ls hw hW (lv_sub hl [0, 1, 2] rfl)
      · replace hw := hw.2 c_33
        refine lv_aload_n hx hb0 dX9_comeDown_36 rfl (lv_at hl 0 rfl) ?_
        refine z_getR (k2 := 49) X hW zC7 zR_42_7 (by decide) rfl zl_X9_28 dX9_comeDown_37 ?_
        refine lv_iload_n hx hb0 dX9_comeDown_40 rfl (lv_at hl 2 rfl) ?_
        obtain ⟨g_41, hw⟩ := hw
        refine z_iald X hW zI_49 g_41 dX9_comeDown_41 ?_
        refine lv_if_ne (tgt := 49) hx hb0 dX9_comeDown_42 (by decide) (fun c_42 => ?_) (fun c_42 => ?_)
        · replace hw := hw.1 c_42
          exact mX9_comeDown_49 X post hret K12 hK12 M L v1 v2 v1 _ _ ls hw hW (lv_sub hl [0, 1, 2] rfl)
        · replace hw := hw.2 c_42
          refine lv_iload_n hx hb0 dX9_comeDown_45 rfl (lv_at hl 2 rfl) ?_
          refine lv_goto (tgt := 55) hx hb0 dX9_comeDown_46 (by decide) ?_
          exact mX9_comeDown_55 X post hret K12 hK12 M L v1 v2 v2 v1 _ _ ls hw hW (lv_sub hl [0, 1, 2] rfl)
set_option maxRecDepth 20000 in
set_option maxHeartbeats 4000000 in
theorem mX9_comeDown {p : Program} {l : Launch} {e : Env} {s : State} {m : MethodId} {args : Array Value} {below : List Frame} {meth : Method} {c : Code} {cells slots : Nat} {Q : State → Prop} {D : va_G} {cy : Nat → ClassId} {ad : Nat → Nat} {A : Nat → Prop} (X : zCx p rmX9_comeDown s m args c cells slots cX9_comeDown 3 RX9 D cy ad A) (post : Mm → Ml → Prop) (hret : zRv p l e rmX9_comeDown s m args below meth c cells slots Q cX9_comeDown D cy ad A post) : ∀ (M : Mm) (L : Ml) (x1 : Int32) (H : Heap) (locs : List Loc) (ls : Array Slot), wpX9_comeDown x1 M L post → zWd D cy ad A s H locs M L → lv_has ls 3 [(0, .ref (ad 42)), (1, .int x1)] → W p l e rmX9_comeDown s m args below meth c H locs cells slots Q (F0 m 0 ls []) := by
  have hx := X.1.1; have hb0 := X.1.2.1; have hts := X.1.2.2.2.2
  intro M L x1 H locs ls hw hW hl
  unfold wpX9_comeDown at hw
  refine lv_aload_n hx hb0 dX9_comeDown_0 rfl (lv_at hl 0 rfl) ?_
  refine lv_dup hx hb0 dX9_comeDown_1 rfl ?_
  refine z_getI X hW zC7 zF_42_17 (by decide) rfl zl_X9_151 dX9_comeDown_2 ?_
  refine lv_iconst (v := (1 : Int32)) hx hb0 dX9_comeDown_5 (by decide) ?_
  refine lv_iadd hx hb0 dX9_comeDown_6 ?_
  refine z_put (ty := .int) X hW zC7 zF_42_17 (by decide) rfl zl_X9_151 rfl (by decide +kernel) rfl rfl dX9_comeDown_7 (fun M_7 H_7 locs_7 e_7 hW => ?_)
  replace hw := hw M_7 e_7
  refine lv_iconst (v := (5 : Int32)) hx hb0 dX9_comeDown_10 (by decide) ?_
  refine lv_istore_n (lv' := [(2, .int (5 : Int32)), (0, .ref (ad 42)), (1, .int x1)]) hx hb0 dX9_comeDown_11 rfl hl (by decide) rfl (fun ls hl => ?_)
  obtain ⟨n_12, hw⟩ := hw
  exact mX9_comeDown_12 X post hret n_12 M_7 L x1 (5 : Int32) _ _ ls hw hW (lv_sub hl [1, 2, 0] rfl)
theorem kX9_comeDown (l : Launch) (D : va_G) (cy : Nat → ClassId) (ad : Nat → Nat) (hi : zInj ad) (x1 : Int32) : zMv l yX9_comeDown (.code yX9_comeDown cX9_comeDown 3 none :: zG) rmX9_comeDown D cy ad [.ref (ad 42), .int x1] (wpX9_comeDown x1) :=
  zMv_of (by decide +kernel) (Nat.le_of_ble_eq_true rfl) hi (fun X M L post _ hret ls hl hw hW => mX9_comeDown X post hret M L x1 _ _ ls hw hW hl)
abbrev rmX9_fall : Room := { frames := 3, cells := 0, slots := 0, locals := 67 }
set_option maxRecDepth 20000 in
set_option maxHeartbeats 4000000 in
theorem mX9_fall_40 {p : Program} {l : Launch} {e : Env} {s : State} {m : MethodId} {args : Array Value} {below : List Frame} {meth : Method} {c : Code} {cells slots : Nat} {Q : State → Prop} {D : va_G} {cy : Nat → ClassId} {ad : Nat → Nat} {A : Nat → Prop} (X : zCx p rmX9_fall s m args c cells slots cX9_fall 2 RX9 D cy ad A) (post : Mm → Ml → Prop) (hret : zRv p l e rmX9_fall s m args below meth c cells slots Q cX9_fall D cy ad A post) (K2 : Mm → Ml → Int32 → Prop) (hK2 : ∀ (M : Mm) (L : Ml) (v1 : Int32) (H : Heap) (locs : List Loc) (ls : Array Slot), K2 M L v1 → zWd D cy ad A s H locs M L → lv_has ls 2 [(0, .ref (ad 42)), (1, .int v1)] → W p l e rmX9_fall s m args below meth c H locs cells slots Q (F0 m 2 ls [])) : ∀ (M : Mm) (L : Ml) (v1 : Int32) (H : Heap) (locs : List Loc) (ls : Array Slot), wpX9_fall_40 post K2 M L v1 → zWd D cy ad A s H locs M L → lv_has ls 2 [(0, .ref (ad 42)), (1, .int v1)] → W p l e rmX9_fall s m args below meth c H locs cells slots Q (F0 m 40 ls []) := by
  have hx := X.1.1; have hb0 := X.1.2.1; have hts := X.1.2.2.2.2
  intro M L v1 H locs ls hw hW hl
  unfold wpX9_fall_40 at hw
  obtain ⟨a_40, e_40⟩ : ∃ y : Int32, y = v1 + (1 : Int32) := ⟨_, rfl⟩
  replace hw := hw a_40 e_40
  refine lv_iinc (v := a_40) (lv' := [(1, .int a_40), (0, .ref (ad 42))]) hx hb0 dX9_fall_40 hl (k := 1) rfl (by rw [e_40]; rfl) (by decide) rfl (fun ls hl => ?_)
  refine lv_goto (tgt := 2) hx hb0 dX9_fall_43 (by decide) ?_
  exact hK2 M L a_40 _ _ ls hw hW (lv_sub hl [1, 0] rfl)
set_option maxRecDepth 20000 in
set_option maxHeartbeats 4000000 in
theorem mX9_fall_2 {p : Program} {l : Launch} {e : Env} {s : State} {m : MethodId} {args : Array Value} {below : List Frame} {meth : Method} {c : Code} {cells slots : Nat} {Q : State → Prop} {D : va_G} {cy : Nat → ClassId} {ad : Nat → Nat} {A : Nat → Prop} (X : zCx p rmX9_fall s m args c cells slots cX9_fall 2 RX9 D cy ad A) (post : Mm → Ml → Prop) (hret : zRv p l e rmX9_fall s m args below meth c cells slots Q cX9_fall D cy ad A post) : ∀ (j9 : Nat) (M : Mm) (L : Ml) (v1 : Int32) (H : Heap) (locs : List Loc) (ls : Array Slot), wlX9_fall_2 post j9 (M, L, v1) → zWd D cy ad A s H locs M L → lv_has ls 2 [(0, .ref (ad 42)), (1, .int v1)] → W p l e rmX9_fall s m args below meth c H locs cells slots Q (F0 m 2 ls []) := by
  have hx := X.1.1; have hb0 := X.1.2.1; have hts := X.1.2.2.2.2
  intro j9
  induction j9 with
  | zero => intro M L v1 H locs ls hw; exact hw.elim
  | succ j9 ih =>
    obtain ⟨K2, hKe⟩ : ∃ K : Mm → Ml → Int32 → Prop, K = fun M L v1 => wlX9_fall_2 post j9 (M, L, v1) := ⟨_, rfl⟩
    have hK2 : ∀ (M : Mm) (L : Ml) (v1 : Int32) (H : Heap) (locs : List Loc) (ls : Array Slot), K2 M L v1 → zWd D cy ad A s H locs M L → lv_has ls 2 [(0, .ref (ad 42)), (1, .int v1)] → W p l e rmX9_fall s m args below meth c H locs cells slots Q (F0 m 2 ls []) := by intro M L v1 H locs ls hw; rw [hKe] at hw; exact ih M L v1 H locs ls hw
    intro M L v1 H locs ls hw hW hl
    have hw : wpX9_fall_2 post K2 M L v1 := by rw [hKe]; exact hw
    clear ih
    unfold wpX9_fall_2 at hw
    refine lv_iload_n hx hb0 dX9_fall_2 rfl (lv_at hl 1 rfl) ?_
    refine lv_bipush (v := (8 : Int32)) hx hb0 dX9_fall_3 (by decide) ?_
    refine lv_icmp_ge (tgt := 46) hx hb0 dX9_fall_5 (by decide) (fun c_5 => ?_) (fun c_5 => ?_)
    · replace hw := hw.1 c_5
      exact hret _ ls _ _ M L dX9_fall_46 hw hW
    · replace hw := hw.2 c_5
      refine lv_aload_n hx hb0 dX9_fall_8 rfl (lv_at hl 0 rfl) ?_
      refine lv_iload_n hx hb0 dX9_fall_9 rfl (lv_at hl 1 rfl) ?_
      refine z_Vi X zO_42 zC7 zc_X9_isAbove zs_X9_isAbove zl_X9_137 rfl ⟨rfl, rfl⟩ ⟨Nat.le_of_ble_eq_true rfl, Nat.le_of_ble_eq_true rfl⟩ (kX9_isAbove l D cy ad X.2.2.2.1 v1) hW hw hl.1 rfl rfl (Nat.le_of_ble_eq_true rfl) dX9_fall_10 (fun r_10 M_10 L_10 H_10 locs_10 hw hW => ?_)
      refine lv_if_eq (tgt := 40) hx hb0 dX9_fall_13 (by decide) (fun c_13 => ?_) (fun c_13 => ?_)
      · replace hw := hw.1 c_13
        exact mX9_fall_40 X post hret K2 hK2 M_10 L_10 v1 _ _ ls hw hW (lv_sub hl [0, 1] rfl)
      · replace hw := hw.2 c_13
        refine lv_aload_n hx hb0 dX9_fall_16 rfl (lv_at hl 0 rfl) ?_
        refine z_getR (k2 := 45) X hW zC7 zR_42_3 (by decide) rfl zl_X9_16 dX9_fall_17 ?_
        refine lv_iload_n hx hb0 dX9_fall_20 rfl (lv_at hl 1 rfl) ?_
        refine lv_dup2_11 hx hb0 dX9_fall_21 rfl rfl ?_
        obtain ⟨g_22, hw⟩ := hw
        refine z_iald X hW zI_45 g_22 dX9_fall_22 ?_
        refine lv_iconst (v := (1 : Int32)) hx hb0 dX9_fall_23 (by decide) ?_
        refine lv_isub hx hb0 dX9_fall_24 ?_
        obtain ⟨g_25, hw⟩ := hw
        refine z_iast X hW zI_45 g_25 dX9_fall_25 (fun M_25 H_25 locs_25 e_25 hW => ?_)
        replace hw := hw M_25 e_25
        refine lv_aload_n hx hb0 dX9_fall_26 rfl (lv_at hl 0 rfl) ?_
        refine z_getR (k2 := 45) X hW zC7 zR_42_3 (by decide) rfl zl_X9_16 dX9_fall_27 ?_
        refine lv_iload_n hx hb0 dX9_fall_30 rfl (lv_at hl 1 rfl) ?_
        obtain ⟨g_31, hw⟩ := hw
        refine z_iald X hW zI_45 g_31 dX9_fall_31 ?_
        refine lv_if_ne (tgt := 40) hx hb0 dX9_fall_32 (by decide) (fun c_32 => ?_) (fun c_32 => ?_)
        · replace hw := hw.1 c_32
          exact mX9_fall_40 X post hret K2 hK2 M_25 L_10 v1 _ _ ls hw hW (lv_sub hl [0, 1] rfl)
        · replace hw := hw.2 c_32
          refine lv_aload_n hx hb0 dX9_fall_35 rfl (lv_at hl 0 rfl) ?_
          refine lv_iload_n hx hb0 dX9_fall_36 rfl (lv_at hl 1 rfl) ?_
          refine z_Vv X zO_42 zC7 zc_X9_comeDown zs_X9_comeDown zl_X9_160 rfl ⟨rfl, rfl⟩ ⟨Nat.le_of_ble_eq_true rfl, Nat.le_of_ble_eq_true rfl⟩ (kX9_comeDown l D cy ad X.2.2.2.1 v1) hW hw hl.1 rfl rfl (Nat.le_of_ble_eq_true rfl) dX9_fall_37 (fun M_37 L_37 H_37 locs_37 hw hW => ?_)
          exact mX9_fall_40 X post hret K2 hK2 M_37 L_37 v1 _ _ ls hw hW (lv_sub hl [0, 1] rfl)
set_option maxRecDepth 20000 in
set_option maxHeartbeats 4000000 in
theorem mX9_fall {p : Program} {l : Launch} {e : Env} {s : State} {m : MethodId} {args : Array Value} {below : List Frame} {meth : Method} {c : Code} {cells slots : Nat} {Q : State → Prop} {D : va_G} {cy : Nat → ClassId} {ad : Nat → Nat} {A : Nat → Prop} (X : zCx p rmX9_fall s m args c cells slots cX9_fall 2 RX9 D cy ad A) (post : Mm → Ml → Prop) (hret : zRv p l e rmX9_fall s m args below meth c cells slots Q cX9_fall D cy ad A post) : ∀ (M : Mm) (L : Ml) (H : Heap) (locs : List Loc) (ls : Array Slot), wpX9_fall M L post → zWd D cy ad A s H locs M L → lv_has ls 2 [(0, .ref (ad 42))] → W p l e rmX9_fall s m args below meth c H locs cells slots Q (F0 m 0 ls []) := by
  have hx := X.1.1; have hb0 := X.1.2.1; have hts := X.1.2.2.2.2
  intro M L H locs ls hw hW hl
  unfold wpX9_fall at hw
  refine lv_iconst (v := (0 : Int32)) hx hb0 dX9_fall_0 (by decide) ?_
  refine lv_istore_n (lv' := [(1, .int (0 : Int32)), (0, .ref (ad 42))]) hx hb0 dX9_fall_1 rfl hl (by decide) rfl (fun ls hl => ?_)
  obtain ⟨n_2, hw⟩ := hw
  exact mX9_fall_2 X post hret n_2 M L (0 : Int32) _ _ ls hw hW (lv_sub hl [1, 0] rfl)
theorem kX9_fall (l : Launch) (D : va_G) (cy : Nat → ClassId) (ad : Nat → Nat) (hi : zInj ad) : zMv l yX9_fall (.code yX9_fall cX9_fall 2 none :: zG) rmX9_fall D cy ad [.ref (ad 42)] (wpX9_fall) :=
  zMv_of (by decide +kernel) (Nat.le_of_ble_eq_true rfl) hi (fun X M L post _ hret ls hl hw hW => mX9_fall X post hret M L _ _ ls hw hW hl)
abbrev rmX9_happen : Room := { frames := 4, cells := 0, slots := 0, locals := 89 }
set_option maxRecDepth 20000 in
set_option maxHeartbeats 4000000 in
theorem mX9_happen_115 {p : Program} {l : Launch} {e : Env} {s : State} {m : MethodId} {args : Array Value} {below : List Frame} {meth : Method} {c : Code} {cells slots : Nat} {Q : State → Prop} {D : va_G} {cy : Nat → ClassId} {ad : Nat → Nat} {A : Nat → Prop} (X : zCx p rmX9_happen s m args c cells slots cX9_happen 3 RX9 D cy ad A) (post : Mm → Ml → Prop) (hret : zRv p l e rmX9_happen s m args below meth c cells slots Q cX9_happen D cy ad A post) : ∀ (M : Mm) (L : Ml) (H : Heap) (locs : List Loc) (ls : Array Slot), wpX9_happen_115 post M L → zWd D cy ad A s H locs M L → lv_has ls 3 [] → W p l e rmX9_happen s m args below meth c H locs cells slots Q (F0 m 115 ls []) := by
  have hx := X.1.1; have hb0 := X.1.2.1; have hts := X.1.2.2.2.2
  intro M L H locs ls hw hW hl
  unfold wpX9_happen_115 at hw
  exact hret _ ls _ _ M L dX9_happen_115 hw hW
set_option maxRecDepth 20000 in
set_option maxHeartbeats 4000000 in
theorem mX9_happen_44 {p : Program} {l : Launch} {e : Env} {s : State} {m : MethodId} {args : Array Value} {below : List Frame} {meth : Method} {c : Code} {cells slots : Nat} {Q : State → Prop} {D : va_G} {cy : Nat → ClassId} {ad : Nat → Nat} {A : Nat → Prop} (X : zCx p rmX9_happen s m args c cells slots cX9_happen 3 RX9 D cy ad A) (post : Mm → Ml → Prop) (hret : zRv p l e rmX9_happen s m args below meth c cells slots Q cX9_happen D cy ad A post) : ∀ (M : Mm) (L : Ml) (v1 : Int32) (H : Heap) (locs : List Loc) (ls : Array Slot), wpX9_happen_44 post M L v1 → zWd D cy ad A s H locs M L → lv_has ls 3 [(0, .ref (ad 42)), (1, .int v1)] → W p l e rmX9_happen s m args below meth c H locs cells slots Q (F0 m 44 ls []) := by
  have hx := X.1.1; have hb0 := X.1.2.1; have hts := X.1.2.2.2.2
  intro M L v1 H locs ls hw hW hl
  unfold wpX9_happen_44 at hw
  refine lv_aload_n hx hb0 dX9_happen_44 rfl (lv_at hl 0 rfl) ?_
  refine lv_iload_n hx hb0 dX9_happen_45 rfl (lv_at hl 1 rfl) ?_
  refine z_Vv X zO_42 zC7 zc_X9_grow zs_X9_grow zl_X9_164 rfl ⟨rfl, rfl⟩ ⟨Nat.le_of_ble_eq_true rfl, Nat.le_of_ble_eq_true rfl⟩ (kX9_grow l D cy ad X.2.2.2.1 v1) hW hw hl.1 rfl rfl (Nat.le_of_ble_eq_true rfl) dX9_happen_46 (fun M_46 L_46 H_46 locs_46 hw hW => ?_)
  refine lv_goto (tgt := 115) hx hb0 dX9_happen_49 (by decide) ?_
  exact mX9_happen_115 X post hret M_46 L_46 _ _ ls hw hW (lv_sub hl [] rfl)
set_option maxRecDepth 20000 in
set_option maxHeartbeats 4000000 in
theorem mX9_happen {p : Program} {l : Launch} {e : Env} {s : State} {m : MethodId} {args : Array Value} {below : List Frame} {meth : Method} {c : Code} {cells slots : Nat} {Q : State → Prop} {D : va_G} {cy : Nat → ClassId} {ad : Nat → Nat} {A : Nat → Prop} (X : zCx p rmX9_happen s m args c cells slots cX9_happen 3 RX9 D cy ad A) (post : Mm → Ml → Prop) (hret : zRv p l e rmX9_happen s m args below meth c cells slots Q cX9_happen D cy ad A post) : ∀ (M : Mm) (L : Ml) (x1 : Int32) (x2 : Int32) (H : Heap) (locs : List Loc) (ls : Array Slot), wpX9_happen x1 x2 M L post → zWd D cy ad A s H locs M L → lv_has ls 3 [(0, .ref (ad 42)), (1, .int x1), (2, .int x2)] → W p l e rmX9_happen s m args below meth c H locs cells slots Q (F0 m 0 ls []) := by
  have hx := X.1.1; have hb0 := X.1.2.1; have hts := X.1.2.2.2.2
  intro M L x1 x2 H locs ls hw hW hl
  unfold wpX9_happen at hw
  refine lv_iload_n hx hb0 dX9_happen_0 rfl (lv_at hl 1 rfl) ?_
  by_cases c_1_0 : x1 = (0 : Int32)
  · replace hw := hw.1 c_1_0
    refine lv_tableIn (tgt := 44) (off := 43) hx hb0 dX9_happen_1 (by rw [c_1_0]; decide) (by rw [c_1_0]; decide) (by rw [c_1_0]; rfl) (by decide) ?_
    exact mX9_happen_44 X post hret M L x1 _ _ ls hw hW (lv_sub hl [0, 1] rfl)
  · replace hw := hw.2 c_1_0
    by_cases c_1_1 : x1 = (1 : Int32)
    · replace hw := hw.1 c_1_1
      refine lv_tableIn (tgt := 44) (off := 43) hx hb0 dX9_happen_1 (by rw [c_1_1]; decide) (by rw [c_1_1]; decide) (by rw [c_1_1]; rfl) (by decide) ?_
      exact mX9_happen_44 X post hret M L x1 _ _ ls hw hW (lv_sub hl [0, 1] rfl)
    · replace hw := hw.2 c_1_1
      by_cases c_1_2 : x1 = (2 : Int32)
      · replace hw := hw.1 c_1_2
        refine lv_tableIn (tgt := 52) (off := 51) hx hb0 dX9_happen_1 (by rw [c_1_2]; decide) (by rw [c_1_2]; decide) (by rw [c_1_2]; rfl) (by decide) ?_
        refine lv_aload_n hx hb0 dX9_happen_52 rfl (lv_at hl 0 rfl) ?_
        refine lv_iconst (v := (-1 : Int32)) hx hb0 dX9_happen_53 (by decide) ?_
        refine z_Vv X zO_42 zC7 zc_X9_blow zs_X9_blow zl_X9_167 rfl ⟨rfl, rfl⟩ ⟨Nat.le_of_ble_eq_true rfl, Nat.le_of_ble_eq_true rfl⟩ (kX9_blow l D cy ad X.2.2.2.1 (-1 : Int32)) hW hw hl.1 rfl rfl (Nat.le_of_ble_eq_true rfl) dX9_happen_54 (fun M_54 L_54 H_54 locs_54 hw hW => ?_)
        refine lv_goto (tgt := 115) hx hb0 dX9_happen_57 (by decide) ?_
        exact mX9_happen_115 X post hret M_54 L_54 _ _ ls hw hW (lv_sub hl [] rfl)
      · replace hw := hw.2 c_1_2
        by_cases c_1_3 : x1 = (3 : Int32)
        · replace hw := hw.1 c_1_3
          refine lv_tableIn (tgt := 60) (off := 59) hx hb0 dX9_happen_1 (by rw [c_1_3]; decide) (by rw [c_1_3]; decide) (by rw [c_1_3]; rfl) (by decide) ?_
          refine lv_aload_n hx hb0 dX9_happen_60 rfl (lv_at hl 0 rfl) ?_
          refine lv_iconst (v := (1 : Int32)) hx hb0 dX9_happen_61 (by decide) ?_
          refine z_Vv X zO_42 zC7 zc_X9_blow zs_X9_blow zl_X9_167 rfl ⟨rfl, rfl⟩ ⟨Nat.le_of_ble_eq_true rfl, Nat.le_of_ble_eq_true rfl⟩ (kX9_blow l D cy ad X.2.2.2.1 (1 : Int32)) hW hw hl.1 rfl rfl (Nat.le_of_ble_eq_true rfl) dX9_happen_62 (fun M_62 L_62 H_62 locs_62 hw hW => ?_)
          refine lv_goto (tgt := 115) hx hb0 dX9_happen_65 (by decide) ?_
          exact mX9_happen_115 X post hret M_62 L_62 _ _ ls hw hW (lv_sub hl [] rfl)
        · replace hw := hw.2 c_1_3
          by_cases c_1_4 : x1 = (4 : Int32)
          · replace hw := hw.1 c_1_4
            refine lv_tableIn (tgt := 68) (off := 67) hx hb0 dX9_happen_1 (by rw [c_1_4]; decide) (by rw [c_1_4]; decide) (by rw [c_1_4]; rfl) (by decide) ?_
            refine lv_aload_n hx hb0 dX9_happen_68 rfl (lv_at hl 0 rfl) ?_
            refine z_Vv X zO_42 zC7 zc_X9_fall zs_X9_fall zl_X9_170 rfl ⟨rfl, rfl⟩ ⟨Nat.le_of_ble_eq_true rfl, Nat.le_of_ble_eq_true rfl⟩ (kX9_fall l D cy ad X.2.2.2.1) hW hw hl.1 rfl rfl (Nat.le_of_ble_eq_true rfl) dX9_happen_69 (fun M_69 L_69 H_69 locs_69 hw hW => ?_)
            refine lv_goto (tgt := 115) hx hb0 dX9_happen_72 (by decide) ?_
            exact mX9_happen_115 X post hret M_69 L_69 _ _ ls hw hW (lv_sub hl [] rfl)
          · replace hw := hw.2 c_1_4
            by_cases c_1_5 : x1 = (5 : Int32)
            · replace hw := hw.1 c_1_5
              refine lv_tableIn (tgt := 75) (off := 74) hx hb0 dX9_happen_1 (by rw [c_1_5]; decide) (by rw [c_1_5]; decide) (by rw [c_1_5]; rfl) (by decide) ?_
              refine lv_aload_n hx hb0 dX9_happen_75 rfl (lv_at hl 0 rfl) ?_
              refine z_getR (k2 := 48) X hW zC7 zR_42_6 (by decide) rfl zl_X9_25 dX9_happen_76 ?_
              refine lv_iload_n hx hb0 dX9_happen_79 rfl (lv_at hl 2 rfl) ?_
              refine lv_dup2_11 hx hb0 dX9_happen_80 rfl rfl ?_
              obtain ⟨g_81, hw⟩ := hw
              refine z_iald X hW zI_48 g_81 dX9_happen_81 ?_
              refine lv_iconst (v := (1 : Int32)) hx hb0 dX9_happen_82 (by decide) ?_
              refine lv_isub hx hb0 dX9_happen_83 ?_
              obtain ⟨g_84, hw⟩ := hw
              refine z_iast X hW zI_48 g_84 dX9_happen_84 (fun M_84 H_84 locs_84 e_84 hW => ?_)
              replace hw := hw M_84 e_84
              refine lv_goto (tgt := 115) hx hb0 dX9_happen_85 (by decide) ?_
              exact mX9_happen_115 X post hret M_84 L _ _ ls hw hW (lv_sub hl [] rfl)
            · replace hw := hw.2 c_1_5
              by_cases c_1_6 : x1 = (6 : Int32)
              · replace hw := hw.1 c_1_6
                refine lv_tableIn (tgt := 88) (off := 87) hx hb0 dX9_happen_1 (by rw [c_1_6]; decide) (by rw [c_1_6]; decide) (by rw [c_1_6]; rfl) (by decide) ?_
                refine lv_aload_n hx hb0 dX9_happen_88 rfl (lv_at hl 0 rfl) ?_
                refine z_getR (k2 := 48) X hW zC7 zR_42_6 (by decide) rfl zl_X9_25 dX9_happen_89 ?_
                refine lv_iload_n hx hb0 dX9_happen_92 rfl (lv_at hl 2 rfl) ?_
                refine lv_dup2_11 hx hb0 dX9_happen_93 rfl rfl ?_
                obtain ⟨g_94, hw⟩ := hw
                refine z_iald X hW zI_48 g_94 dX9_happen_94 ?_
                refine lv_iconst (v := (1 : Int32)) hx hb0 dX9_happen_95 (by decide) ?_
                refine lv_iadd hx hb0 dX9_happen_96 ?_
                obtain ⟨g_97, hw⟩ := hw
                refine z_iast X hW zI_48 g_97 dX9_happen_97 (fun M_97 H_97 locs_97 e_97 hW => ?_)
                replace hw := hw M_97 e_97
                refine lv_goto (tgt := 115) hx hb0 dX9_happen_98 (by decide) ?_
                exact mX9_happen_115 X post hret M_97 L _ _ ls hw hW (lv_sub hl [] rfl)
              · replace hw := hw.2 c_1_6
                refine lv_tableOut (tgt := 101) hx hb0 dX9_happen_1 (by have q0 : ¬ x1.toInt = 0 := lv_neT c_1_0 (by decide); have q1 : ¬ x1.toInt = 1 := lv_neT c_1_1 (by decide); have q2 : ¬ x1.toInt = 2 := lv_neT c_1_2 (by decide); have q3 : ¬ x1.toInt = 3 := lv_neT c_1_3 (by decide); have q4 : ¬ x1.toInt = 4 := lv_neT c_1_4 (by decide); have q5 : ¬ x1.toInt = 5 := lv_neT c_1_5 (by decide); have q6 : ¬ x1.toInt = 6 := lv_neT c_1_6 (by decide); omega) (by decide) ?_
                refine lv_aload_n hx hb0 dX9_happen_101 rfl (lv_at hl 0 rfl) ?_
                refine z_getR (k2 := 49) X hW zC7 zR_42_7 (by decide) rfl zl_X9_28 dX9_happen_102 ?_
                refine lv_iload_n hx hb0 dX9_happen_105 rfl (lv_at hl 2 rfl) ?_
                refine lv_iconst (v := (1 : Int32)) hx hb0 dX9_happen_106 (by decide) ?_
                refine lv_aload_n hx hb0 dX9_happen_107 rfl (lv_at hl 0 rfl) ?_
                refine z_getR (k2 := 49) X hW zC7 zR_42_7 (by decide) rfl zl_X9_28 dX9_happen_108 ?_
                refine lv_iload_n hx hb0 dX9_happen_111 rfl (lv_at hl 2 rfl) ?_
                obtain ⟨g_112, hw⟩ := hw
                refine z_iald X hW zI_49 g_112 dX9_happen_112 ?_
                refine lv_isub hx hb0 dX9_happen_113 ?_
                obtain ⟨g_114, hw⟩ := hw
                refine z_iast X hW zI_49 g_114 dX9_happen_114 (fun M_114 H_114 locs_114 e_114 hW => ?_)
                replace hw := hw M_114 e_114
                exact mX9_happen_115 X post hret M_114 L _ _ ls hw hW (lv_sub hl [] rfl)
theorem kX9_happen (l : Launch) (D : va_G) (cy : Nat → ClassId) (ad : Nat → Nat) (hi : zInj ad) (x1 : Int32) (x2 : Int32) : zMv l yX9_happen (.code yX9_happen cX9_happen 3 none :: zG) rmX9_happen D cy ad [.ref (ad 42), .int x1, .int x2] (wpX9_happen x1 x2) :=
  zMv_of (by decide +kernel) (Nat.le_of_ble_eq_true rfl) hi (fun X M L post _ hret ls hl hw hW => mX9_happen X post hret M L x1 x2 _ _ ls hw hW hl)
abbrev rmX9_keepNow : Room := { frames := 0, cells := 0, slots := 0, locals := 0 }
set_option maxRecDepth 20000 in
set_option maxHeartbeats 4000000 in
theorem mX9_keepNow_73 {p : Program} {l : Launch} {e : Env} {s : State} {m : MethodId} {args : Array Value} {below : List Frame} {meth : Method} {c : Code} {cells slots : Nat} {Q : State → Prop} {D : va_G} {cy : Nat → ClassId} {ad : Nat → Nat} {A : Nat → Prop} (X : zCx p rmX9_keepNow s m args c cells slots cX9_keepNow 2 RX9 D cy ad A) (post : Mm → Ml → Prop) (hret : zRv p l e rmX9_keepNow s m args below meth c cells slots Q cX9_keepNow D cy ad A post) : ∀ (j9 : Nat) (M : Mm) (L : Ml) (v1 : Int32) (H : Heap) (locs : List Loc) (ls : Array Slot), wlX9_keepNow_73 post j9 (M, L, v1) → zWd D cy ad A s H locs M L → lv_has ls 2 [(0, .ref (ad 42)), (1, .int v1)] → W p l e rmX9_keepNow s m args below meth c H locs cells slots Q (F0 m 73 ls []) := by
  have hx := X.1.1; have hb0 := X.1.2.1; have hts := X.1.2.2.2.2
  intro j9
  induction j9 with
  | zero => intro M L v1 H locs ls hw; exact hw.elim
  | succ j9 ih =>
    obtain ⟨K73, hKe⟩ : ∃ K : Mm → Ml → Int32 → Prop, K = fun M L v1 => wlX9_keepNow_73 post j9 (M, L, v1) := ⟨_, rfl⟩
    have hK73 : ∀ (M : Mm) (L : Ml) (v1 : Int32) (H : Heap) (locs : List Loc) (ls : Array Slot), K73 M L v1 → zWd D cy ad A s H locs M L → lv_has ls 2 [(0, .ref (ad 42)), (1, .int v1)] → W p l e rmX9_keepNow s m args below meth c H locs cells slots Q (F0 m 73 ls []) := by intro M L v1 H locs ls hw; rw [hKe] at hw; exact ih M L v1 H locs ls hw
    intro M L v1 H locs ls hw hW hl
    have hw : wpX9_keepNow_73 post K73 M L v1 := by rw [hKe]; exact hw
    clear ih
    unfold wpX9_keepNow_73 at hw
    refine lv_iload_n hx hb0 dX9_keepNow_73 rfl (lv_at hl 1 rfl) ?_
    refine lv_bipush (v := (6 : Int32)) hx hb0 dX9_keepNow_74 (by decide) ?_
    refine lv_icmp_ge (tgt := 115) hx hb0 dX9_keepNow_76 (by decide) (fun c_76 => ?_) (fun c_76 => ?_)
    · replace hw := hw.1 c_76
      exact hret _ ls _ _ M L dX9_keepNow_115 hw hW
    · replace hw := hw.2 c_76
      refine lv_aload_n hx hb0 dX9_keepNow_79 rfl (lv_at hl 0 rfl) ?_
      refine z_getR (k2 := 56) X hW zC7 zR_42_20 (by decide) rfl zl_X9_49 dX9_keepNow_80 ?_
      refine lv_bipush (v := (32 : Int32)) hx hb0 dX9_keepNow_83 (by decide) ?_
      refine lv_iload_n hx hb0 dX9_keepNow_85 rfl (lv_at hl 1 rfl) ?_
      refine lv_iadd hx hb0 dX9_keepNow_86 ?_
      refine lv_aload_n hx hb0 dX9_keepNow_87 rfl (lv_at hl 0 rfl) ?_
      refine z_getR (k2 := 48) X hW zC7 zR_42_6 (by decide) rfl zl_X9_25 dX9_keepNow_88 ?_
      refine lv_iload_n hx hb0 dX9_keepNow_91 rfl (lv_at hl 1 rfl) ?_
      obtain ⟨g_92, hw⟩ := hw
      refine z_iald X hW zI_48 g_92 dX9_keepNow_92 ?_
      obtain ⟨g_93, hw⟩ := hw
      refine z_iast X hW zI_56 g_93 dX9_keepNow_93 (fun M_93 H_93 locs_93 e_93 hW => ?_)
      replace hw := hw M_93 e_93
      refine lv_aload_n hx hb0 dX9_keepNow_94 rfl (lv_at hl 0 rfl) ?_
      refine z_getR (k2 := 56) X hW zC7 zR_42_20 (by decide) rfl zl_X9_49 dX9_keepNow_95 ?_
      refine lv_bipush (v := (38 : Int32)) hx hb0 dX9_keepNow_98 (by decide) ?_
      refine lv_iload_n hx hb0 dX9_keepNow_100 rfl (lv_at hl 1 rfl) ?_
      refine lv_iadd hx hb0 dX9_keepNow_101 ?_
      refine lv_aload_n hx hb0 dX9_keepNow_102 rfl (lv_at hl 0 rfl) ?_
      refine z_getR (k2 := 49) X hW zC7 zR_42_7 (by decide) rfl zl_X9_28 dX9_keepNow_103 ?_
      refine lv_iload_n hx hb0 dX9_keepNow_106 rfl (lv_at hl 1 rfl) ?_
      obtain ⟨g_107, hw⟩ := hw
      refine z_iald X hW zI_49 g_107 dX9_keepNow_107 ?_
      obtain ⟨g_108, hw⟩ := hw
      refine z_iast X hW zI_56 g_108 dX9_keepNow_108 (fun M_108 H_108 locs_108 e_108 hW => ?_)
      replace hw := hw M_108 e_108
      obtain ⟨a_109, e_109⟩ : ∃ y : Int32, y = v1 + (1 : Int32) := ⟨_, rfl⟩
      replace hw := hw a_109 e_109
      refine lv_iinc (v := a_109) (lv' := [(1, .int a_109), (0, .ref (ad 42))]) hx hb0 dX9_keepNow_109 hl (k := 1) rfl (by rw [e_109]; rfl) (by decide) rfl (fun ls hl => ?_)
      refine lv_goto (tgt := 73) hx hb0 dX9_keepNow_112 (by decide) ?_
      exact hK73 M_108 L a_109 _ _ ls hw hW (lv_sub hl [1, 0] rfl)
set_option maxRecDepth 20000 in
set_option maxHeartbeats 4000000 in
theorem mX9_keepNow_2 {p : Program} {l : Launch} {e : Env} {s : State} {m : MethodId} {args : Array Value} {below : List Frame} {meth : Method} {c : Code} {cells slots : Nat} {Q : State → Prop} {D : va_G} {cy : Nat → ClassId} {ad : Nat → Nat} {A : Nat → Prop} (X : zCx p rmX9_keepNow s m args c cells slots cX9_keepNow 2 RX9 D cy ad A) (post : Mm → Ml → Prop) (hret : zRv p l e rmX9_keepNow s m args below meth c cells slots Q cX9_keepNow D cy ad A post) : ∀ (j9 : Nat) (M : Mm) (L : Ml) (v1 : Int32) (H : Heap) (locs : List Loc) (ls : Array Slot), wlX9_keepNow_2 post j9 (M, L, v1) → zWd D cy ad A s H locs M L → lv_has ls 2 [(0, .ref (ad 42)), (1, .int v1)] → W p l e rmX9_keepNow s m args below meth c H locs cells slots Q (F0 m 2 ls []) := by
  have hx := X.1.1; have hb0 := X.1.2.1; have hts := X.1.2.2.2.2
  intro j9
  induction j9 with
  | zero => intro M L v1 H locs ls hw; exact hw.elim
  | succ j9 ih =>
    obtain ⟨K2, hKe⟩ : ∃ K : Mm → Ml → Int32 → Prop, K = fun M L v1 => wlX9_keepNow_2 post j9 (M, L, v1) := ⟨_, rfl⟩
    have hK2 : ∀ (M : Mm) (L : Ml) (v1 : Int32) (H : Heap) (locs : List Loc) (ls : Array Slot), K2 M L v1 → zWd D cy ad A s H locs M L → lv_has ls 2 [(0, .ref (ad 42)), (1, .int v1)] → W p l e rmX9_keepNow s m args below meth c H locs cells slots Q (F0 m 2 ls []) := by intro M L v1 H locs ls hw; rw [hKe] at hw; exact ih M L v1 H locs ls hw
    intro M L v1 H locs ls hw hW hl
    have hw : wpX9_keepNow_2 post K2 M L v1 := by rw [hKe]; exact hw
    clear ih
    unfold wpX9_keepNow_2 at hw
    refine lv_iload_n hx hb0 dX9_keepNow_2 rfl (lv_at hl 1 rfl) ?_
    refine lv_bipush (v := (8 : Int32)) hx hb0 dX9_keepNow_3 (by decide) ?_
    refine lv_icmp_ge (tgt := 71) hx hb0 dX9_keepNow_5 (by decide) (fun c_5 => ?_) (fun c_5 => ?_)
    · replace hw := hw.1 c_5
      refine lv_iconst (v := (0 : Int32)) hx hb0 dX9_keepNow_71 (by decide) ?_
      refine lv_istore_n (lv' := [(1, .int (0 : Int32)), (0, .ref (ad 42))]) hx hb0 dX9_keepNow_72 rfl hl (by decide) rfl (fun ls hl => ?_)
      obtain ⟨n_73, hw⟩ := hw
      exact mX9_keepNow_73 X post hret n_73 M L (0 : Int32) _ _ ls hw hW (lv_sub hl [1, 0] rfl)
    · replace hw := hw.2 c_5
      refine lv_aload_n hx hb0 dX9_keepNow_8 rfl (lv_at hl 0 rfl) ?_
      refine z_getR (k2 := 56) X hW zC7 zR_42_20 (by decide) rfl zl_X9_49 dX9_keepNow_9 ?_
      refine lv_iload_n hx hb0 dX9_keepNow_12 rfl (lv_at hl 1 rfl) ?_
      refine lv_aload_n hx hb0 dX9_keepNow_13 rfl (lv_at hl 0 rfl) ?_
      refine z_getR (k2 := 43) X hW zC7 zR_42_1 (by decide) rfl zl_X9_7 dX9_keepNow_14 ?_
      refine lv_iload_n hx hb0 dX9_keepNow_17 rfl (lv_at hl 1 rfl) ?_
      obtain ⟨g_18, hw⟩ := hw
      refine z_iald X hW zI_43 g_18 dX9_keepNow_18 ?_
      obtain ⟨g_19, hw⟩ := hw
      refine z_iast X hW zI_56 g_19 dX9_keepNow_19 (fun M_19 H_19 locs_19 e_19 hW => ?_)
      replace hw := hw M_19 e_19
      refine lv_aload_n hx hb0 dX9_keepNow_20 rfl (lv_at hl 0 rfl) ?_
      refine z_getR (k2 := 56) X hW zC7 zR_42_20 (by decide) rfl zl_X9_49 dX9_keepNow_21 ?_
      refine lv_bipush (v := (8 : Int32)) hx hb0 dX9_keepNow_24 (by decide) ?_
      refine lv_iload_n hx hb0 dX9_keepNow_26 rfl (lv_at hl 1 rfl) ?_
      refine lv_iadd hx hb0 dX9_keepNow_27 ?_
      refine lv_aload_n hx hb0 dX9_keepNow_28 rfl (lv_at hl 0 rfl) ?_
      refine z_getR (k2 := 44) X hW zC7 zR_42_2 (by decide) rfl zl_X9_13 dX9_keepNow_29 ?_
      refine lv_iload_n hx hb0 dX9_keepNow_32 rfl (lv_at hl 1 rfl) ?_
      obtain ⟨g_33, hw⟩ := hw
      refine z_iald X hW zI_44 g_33 dX9_keepNow_33 ?_
      obtain ⟨g_34, hw⟩ := hw
      refine z_iast X hW zI_56 g_34 dX9_keepNow_34 (fun M_34 H_34 locs_34 e_34 hW => ?_)
      replace hw := hw M_34 e_34
      refine lv_aload_n hx hb0 dX9_keepNow_35 rfl (lv_at hl 0 rfl) ?_
      refine z_getR (k2 := 56) X hW zC7 zR_42_20 (by decide) rfl zl_X9_49 dX9_keepNow_36 ?_
      refine lv_bipush (v := (16 : Int32)) hx hb0 dX9_keepNow_39 (by decide) ?_
      refine lv_iload_n hx hb0 dX9_keepNow_41 rfl (lv_at hl 1 rfl) ?_
      refine lv_iadd hx hb0 dX9_keepNow_42 ?_
      refine lv_aload_n hx hb0 dX9_keepNow_43 rfl (lv_at hl 0 rfl) ?_
      refine z_getR (k2 := 45) X hW zC7 zR_42_3 (by decide) rfl zl_X9_16 dX9_keepNow_44 ?_
      refine lv_iload_n hx hb0 dX9_keepNow_47 rfl (lv_at hl 1 rfl) ?_
      obtain ⟨g_48, hw⟩ := hw
      refine z_iald X hW zI_45 g_48 dX9_keepNow_48 ?_
      obtain ⟨g_49, hw⟩ := hw
      refine z_iast X hW zI_56 g_49 dX9_keepNow_49 (fun M_49 H_49 locs_49 e_49 hW => ?_)
      replace hw := hw M_49 e_49
      refine lv_aload_n hx hb0 dX9_keepNow_50 rfl (lv_at hl 0 rfl) ?_
      refine z_getR (k2 := 56) X hW zC7 zR_42_20 (by decide) rfl zl_X9_49 dX9_keepNow_51 ?_
      refine lv_bipush (v := (24 : Int32)) hx hb0 dX9_keepNow_54 (by decide) ?_
      refine lv_iload_n hx hb0 dX9_keepNow_56 rfl (lv_at hl 1 rfl) ?_
      refine lv_iadd hx hb0 dX9_keepNow_57 ?_
      refine lv_aload_n hx hb0 dX9_keepNow_58 rfl (lv_at hl 0 rfl) ?_
      refine z_getR (k2 := 47) X hW zC7 zR_42_5 (by decide) rfl zl_X9_22 dX9_keepNow_59 ?_
      refine lv_iload_n hx hb0 dX9_keepNow_62 rfl (lv_at hl 1 rfl) ?_
      obtain ⟨g_63, hw⟩ := hw
      refine z_iald X hW zI_47 g_63 dX9_keepNow_63 ?_
      obtain ⟨g_64, hw⟩ := hw
      refine z_iast X hW zI_56 g_64 dX9_keepNow_64 (fun M_64 H_64 locs_64 e_64 hW => ?_)
      replace hw := hw M_64 e_64
      obtain ⟨a_65, e_65⟩ : ∃ y : Int32, y = v1 + (1 : Int32) := ⟨_, rfl⟩
      replace hw := hw a_65 e_65
      refine lv_iinc (v := a_65) (lv' := [(1, .int a_65), (0, .ref (ad 42))]) hx hb0 dX9_keepNow_65 hl (k := 1) rfl (by rw [e_65]; rfl) (by decide) rfl (fun ls hl => ?_)
      refine lv_goto (tgt := 2) hx hb0 dX9_keepNow_68 (by decide) ?_
      exact hK2 M_64 L a_65 _ _ ls hw hW (lv_sub hl [1, 0] rfl)
set_option maxRecDepth 20000 in
set_option maxHeartbeats 4000000 in
theorem mX9_keepNow {p : Program} {l : Launch} {e : Env} {s : State} {m : MethodId} {args : Array Value} {below : List Frame} {meth : Method} {c : Code} {cells slots : Nat} {Q : State → Prop} {D : va_G} {cy : Nat → ClassId} {ad : Nat → Nat} {A : Nat → Prop} (X : zCx p rmX9_keepNow s m args c cells slots cX9_keepNow 2 RX9 D cy ad A) (post : Mm → Ml → Prop) (hret : zRv p l e rmX9_keepNow s m args below meth c cells slots Q cX9_keepNow D cy ad A post) : ∀ (M : Mm) (L : Ml) (H : Heap) (locs : List Loc) (ls : Array Slot), wpX9_keepNow M L post → zWd D cy ad A s H locs M L → lv_has ls 2 [(0, .ref (ad 42))] → W p l e rmX9_keepNow s m args below meth c H locs cells slots Q (F0 m 0 ls []) := by
  have hx := X.1.1; have hb0 := X.1.2.1; have hts := X.1.2.2.2.2
  intro M L H locs ls hw hW hl
  unfold wpX9_keepNow at hw
  refine lv_iconst (v := (0 : Int32)) hx hb0 dX9_keepNow_0 (by decide) ?_
  refine lv_istore_n (lv' := [(1, .int (0 : Int32)), (0, .ref (ad 42))]) hx hb0 dX9_keepNow_1 rfl hl (by decide) rfl (fun ls hl => ?_)
  obtain ⟨n_2, hw⟩ := hw
  exact mX9_keepNow_2 X post hret n_2 M L (0 : Int32) _ _ ls hw hW (lv_sub hl [1, 0] rfl)
theorem kX9_keepNow (l : Launch) (D : va_G) (cy : Nat → ClassId) (ad : Nat → Nat) (hi : zInj ad) : zMv l yX9_keepNow (.code yX9_keepNow cX9_keepNow 2 none :: zG) rmX9_keepNow D cy ad [.ref (ad 42)] (wpX9_keepNow) :=
  zMv_of (by decide +kernel) (Nat.le_of_ble_eq_true rfl) hi (fun X M L post _ hret ls hl hw hW => mX9_keepNow X post hret M L _ _ ls hw hW hl)
abbrev rmX9_back : Room := { frames := 0, cells := 0, slots := 0, locals := 0 }
set_option maxRecDepth 20000 in
set_option maxHeartbeats 4000000 in
theorem mX9_back_73 {p : Program} {l : Launch} {e : Env} {s : State} {m : MethodId} {args : Array Value} {below : List Frame} {meth : Method} {c : Code} {cells slots : Nat} {Q : State → Prop} {D : va_G} {cy : Nat → ClassId} {ad : Nat → Nat} {A : Nat → Prop} (X : zCx p rmX9_back s m args c cells slots cX9_back 3 RX9 D cy ad A) (post : Int32 → Mm → Ml → Prop) (hret : zRi p l e rmX9_back s m args below meth c cells slots Q cX9_back D cy ad A .int post) : ∀ (j9 : Nat) (M : Mm) (L : Ml) (v1 : Int32) (v2 : Int32) (H : Heap) (locs : List Loc) (ls : Array Slot), wlX9_back_73 post j9 (M, L, v1, v2) → zWd D cy ad A s H locs M L → lv_has ls 3 [(0, .ref (ad 42)), (1, .int v1), (2, .int v2)] → W p l e rmX9_back s m args below meth c H locs cells slots Q (F0 m 73 ls []) := by
  have hx := X.1.1; have hb0 := X.1.2.1; have hts := X.1.2.2.2.2
  intro j9
  induction j9 with
  | zero => intro M L v1 v2 H locs ls hw; exact hw.elim
  | succ j9 ih =>
    obtain ⟨K73, hKe⟩ : ∃ K : Mm → Ml → Int32 → Int32 → Prop, K = fun M L v1 v2 => wlX9_back_73 post j9 (M, L, v1, v2) := ⟨_, rfl⟩
    have hK73 : ∀ (M : Mm) (L : Ml) (v1 : Int32) (v2 : Int32) (H : Heap) (locs : List Loc) (ls : Array Slot), K73 M L v1 v2 → zWd D cy ad A s H locs M L → lv_has ls 3 [(0, .ref (ad 42)), (1, .int v1), (2, .int v2)] → W p l e rmX9_back s m args below meth c H locs cells slots Q (F0 m 73 ls []) := by intro M L v1 v2 H locs ls hw; rw [hKe] at hw; exact ih M L v1 v2 H locs ls hw
    intro M L v1 v2 H locs ls hw hW hl
    have hw : wpX9_back_73 post K73 M L v1 v2 := by rw [hKe]; exact hw
    clear ih
    unfold wpX9_back_73 at hw
    refine lv_iload_n hx hb0 dX9_back_73 rfl (lv_at hl 2 rfl) ?_
    refine lv_bipush (v := (6 : Int32)) hx hb0 dX9_back_74 (by decide) ?_
    refine lv_icmp_ge (tgt := 115) hx hb0 dX9_back_76 (by decide) (fun c_76 => ?_) (fun c_76 => ?_)
    · replace hw := hw.1 c_76
      refine lv_iload_n hx hb0 dX9_back_115 rfl (lv_at hl 1 rfl) ?_
      exact hret _ ls _ _ v1 M L dX9_back_116 rfl hw hW
    · replace hw := hw.2 c_76
      refine lv_aload_n hx hb0 dX9_back_79 rfl (lv_at hl 0 rfl) ?_
      refine z_getR (k2 := 48) X hW zC7 zR_42_6 (by decide) rfl zl_X9_25 dX9_back_80 ?_
      refine lv_iload_n hx hb0 dX9_back_83 rfl (lv_at hl 2 rfl) ?_
      refine lv_aload_n hx hb0 dX9_back_84 rfl (lv_at hl 0 rfl) ?_
      refine z_getR (k2 := 56) X hW zC7 zR_42_20 (by decide) rfl zl_X9_49 dX9_back_85 ?_
      refine lv_bipush (v := (32 : Int32)) hx hb0 dX9_back_88 (by decide) ?_
      refine lv_iload_n hx hb0 dX9_back_90 rfl (lv_at hl 2 rfl) ?_
      refine lv_iadd hx hb0 dX9_back_91 ?_
      obtain ⟨g_92, hw⟩ := hw
      refine z_iald X hW zI_56 g_92 dX9_back_92 ?_
      obtain ⟨g_93, hw⟩ := hw
      refine z_iast X hW zI_48 g_93 dX9_back_93 (fun M_93 H_93 locs_93 e_93 hW => ?_)
      replace hw := hw M_93 e_93
      refine lv_aload_n hx hb0 dX9_back_94 rfl (lv_at hl 0 rfl) ?_
      refine z_getR (k2 := 49) X hW zC7 zR_42_7 (by decide) rfl zl_X9_28 dX9_back_95 ?_
      refine lv_iload_n hx hb0 dX9_back_98 rfl (lv_at hl 2 rfl) ?_
      refine lv_aload_n hx hb0 dX9_back_99 rfl (lv_at hl 0 rfl) ?_
      refine z_getR (k2 := 56) X hW zC7 zR_42_20 (by decide) rfl zl_X9_49 dX9_back_100 ?_
      refine lv_bipush (v := (38 : Int32)) hx hb0 dX9_back_103 (by decide) ?_
      refine lv_iload_n hx hb0 dX9_back_105 rfl (lv_at hl 2 rfl) ?_
      refine lv_iadd hx hb0 dX9_back_106 ?_
      obtain ⟨g_107, hw⟩ := hw
      refine z_iald X hW zI_56 g_107 dX9_back_107 ?_
      obtain ⟨g_108, hw⟩ := hw
      refine z_iast X hW zI_49 g_108 dX9_back_108 (fun M_108 H_108 locs_108 e_108 hW => ?_)
      replace hw := hw M_108 e_108
      obtain ⟨a_109, e_109⟩ : ∃ y : Int32, y = v2 + (1 : Int32) := ⟨_, rfl⟩
      replace hw := hw a_109 e_109
      refine lv_iinc (v := a_109) (lv' := [(2, .int a_109), (0, .ref (ad 42)), (1, .int v1)]) hx hb0 dX9_back_109 hl (k := 2) rfl (by rw [e_109]; rfl) (by decide) rfl (fun ls hl => ?_)
      refine lv_goto (tgt := 73) hx hb0 dX9_back_112 (by decide) ?_
      exact hK73 M_108 L v1 a_109 _ _ ls hw hW (lv_sub hl [1, 2, 0] rfl)
set_option maxRecDepth 20000 in
set_option maxHeartbeats 4000000 in
theorem mX9_back_2 {p : Program} {l : Launch} {e : Env} {s : State} {m : MethodId} {args : Array Value} {below : List Frame} {meth : Method} {c : Code} {cells slots : Nat} {Q : State → Prop} {D : va_G} {cy : Nat → ClassId} {ad : Nat → Nat} {A : Nat → Prop} (X : zCx p rmX9_back s m args c cells slots cX9_back 3 RX9 D cy ad A) (post : Int32 → Mm → Ml → Prop) (hret : zRi p l e rmX9_back s m args below meth c cells slots Q cX9_back D cy ad A .int post) : ∀ (j9 : Nat) (M : Mm) (L : Ml) (v1 : Int32) (v2 : Int32) (H : Heap) (locs : List Loc) (ls : Array Slot), wlX9_back_2 post j9 (M, L, v1, v2) → zWd D cy ad A s H locs M L → lv_has ls 3 [(0, .ref (ad 42)), (1, .int v1), (2, .int v2)] → W p l e rmX9_back s m args below meth c H locs cells slots Q (F0 m 2 ls []) := by
  have hx := X.1.1; have hb0 := X.1.2.1; have hts := X.1.2.2.2.2
  intro j9
  induction j9 with
  | zero => intro M L v1 v2 H locs ls hw; exact hw.elim
  | succ j9 ih =>
    obtain ⟨K2, hKe⟩ : ∃ K : Mm → Ml → Int32 → Int32 → Prop, K = fun M L v1 v2 => wlX9_back_2 post j9 (M, L, v1, v2) := ⟨_, rfl⟩
    have hK2 : ∀ (M : Mm) (L : Ml) (v1 : Int32) (v2 : Int32) (H : Heap) (locs : List Loc) (ls : Array Slot), K2 M L v1 v2 → zWd D cy ad A s H locs M L → lv_has ls 3 [(0, .ref (ad 42)), (1, .int v1), (2, .int v2)] → W p l e rmX9_back s m args below meth c H locs cells slots Q (F0 m 2 ls []) := by intro M L v1 v2 H locs ls hw; rw [hKe] at hw; exact ih M L v1 v2 H locs ls hw
    intro M L v1 v2 H locs ls hw hW hl
    have hw : wpX9_back_2 post K2 M L v1 v2 := by rw [hKe]; exact hw
    clear ih
    unfold wpX9_back_2 at hw
    refine lv_iload_n hx hb0 dX9_back_2 rfl (lv_at hl 2 rfl) ?_
    refine lv_bipush (v := (8 : Int32)) hx hb0 dX9_back_3 (by decide) ?_
    refine lv_icmp_ge (tgt := 71) hx hb0 dX9_back_5 (by decide) (fun c_5 => ?_) (fun c_5 => ?_)
    · replace hw := hw.1 c_5
      refine lv_iconst (v := (0 : Int32)) hx hb0 dX9_back_71 (by decide) ?_
      refine lv_istore_n (lv' := [(2, .int (0 : Int32)), (0, .ref (ad 42)), (1, .int v1)]) hx hb0 dX9_back_72 rfl hl (by decide) rfl (fun ls hl => ?_)
      obtain ⟨n_73, hw⟩ := hw
      exact mX9_back_73 X post hret n_73 M L v1 (0 : Int32) _ _ ls hw hW (lv_sub hl [1, 2, 0] rfl)
    · replace hw := hw.2 c_5
      refine lv_aload_n hx hb0 dX9_back_8 rfl (lv_at hl 0 rfl) ?_
      refine z_getR (k2 := 43) X hW zC7 zR_42_1 (by decide) rfl zl_X9_7 dX9_back_9 ?_
      refine lv_iload_n hx hb0 dX9_back_12 rfl (lv_at hl 2 rfl) ?_
      refine lv_aload_n hx hb0 dX9_back_13 rfl (lv_at hl 0 rfl) ?_
      refine z_getR (k2 := 56) X hW zC7 zR_42_20 (by decide) rfl zl_X9_49 dX9_back_14 ?_
      refine lv_iload_n hx hb0 dX9_back_17 rfl (lv_at hl 2 rfl) ?_
      obtain ⟨g_18, hw⟩ := hw
      refine z_iald X hW zI_56 g_18 dX9_back_18 ?_
      obtain ⟨g_19, hw⟩ := hw
      refine z_iast X hW zI_43 g_19 dX9_back_19 (fun M_19 H_19 locs_19 e_19 hW => ?_)
      replace hw := hw M_19 e_19
      refine lv_aload_n hx hb0 dX9_back_20 rfl (lv_at hl 0 rfl) ?_
      refine z_getR (k2 := 44) X hW zC7 zR_42_2 (by decide) rfl zl_X9_13 dX9_back_21 ?_
      refine lv_iload_n hx hb0 dX9_back_24 rfl (lv_at hl 2 rfl) ?_
      refine lv_aload_n hx hb0 dX9_back_25 rfl (lv_at hl 0 rfl) ?_
      refine z_getR (k2 := 56) X hW zC7 zR_42_20 (by decide) rfl zl_X9_49 dX9_back_26 ?_
      refine lv_bipush (v := (8 : Int32)) hx hb0 dX9_back_29 (by decide) ?_
      refine lv_iload_n hx hb0 dX9_back_31 rfl (lv_at hl 2 rfl) ?_
      refine lv_iadd hx hb0 dX9_back_32 ?_
      obtain ⟨g_33, hw⟩ := hw
      refine z_iald X hW zI_56 g_33 dX9_back_33 ?_
      obtain ⟨g_34, hw⟩ := hw
      refine z_iast X hW zI_44 g_34 dX9_back_34 (fun M_34 H_34 locs_34 e_34 hW => ?_)
      replace hw := hw M_34 e_34
      refine lv_aload_n hx hb0 dX9_back_35 rfl (lv_at hl 0 rfl) ?_
      refine z_getR (k2 := 45) X hW zC7 zR_42_3 (by decide) rfl zl_X9_16 dX9_back_36 ?_
      refine lv_iload_n hx hb0 dX9_back_39 rfl (lv_at hl 2 rfl) ?_
      refine lv_aload_n hx hb0 dX9_back_40 rfl (lv_at hl 0 rfl) ?_
      refine z_getR (k2 := 56) X hW zC7 zR_42_20 (by decide) rfl zl_X9_49 dX9_back_41 ?_
      refine lv_bipush (v := (16 : Int32)) hx hb0 dX9_back_44 (by decide) ?_
      refine lv_iload_n hx hb0 dX9_back_46 rfl (lv_at hl 2 rfl) ?_
      refine lv_iadd hx hb0 dX9_back_47 ?_
      obtain ⟨g_48, hw⟩ := hw
      refine z_iald X hW zI_56 g_48 dX9_back_48 ?_
      obtain ⟨g_49, hw⟩ := hw
      refine z_iast X hW zI_45 g_49 dX9_back_49 (fun M_49 H_49 locs_49 e_49 hW => ?_)
      replace hw := hw M_49 e_49
      refine lv_aload_n hx hb0 dX9_back_50 rfl (lv_at hl 0 rfl) ?_
      refine z_getR (k2 := 47) X hW zC7 zR_42_5 (by decide) rfl zl_X9_22 dX9_back_51 ?_
      refine lv_iload_n hx hb0 dX9_back_54 rfl (lv_at hl 2 rfl) ?_
      refine lv_aload_n hx hb0 dX9_back_55 rfl (lv_at hl 0 rfl) ?_
      refine z_getR (k2 := 56) X hW zC7 zR_42_20 (by decide) rfl zl_X9_49 dX9_back_56 ?_
      refine lv_bipush (v := (24 : Int32)) hx hb0 dX9_back_59 (by decide) ?_
      refine lv_iload_n hx hb0 dX9_back_61 rfl (lv_at hl 2 rfl) ?_
      refine lv_iadd hx hb0 dX9_back_62 ?_
      obtain ⟨g_63, hw⟩ := hw
      refine z_iald X hW zI_56 g_63 dX9_back_63 ?_
      obtain ⟨g_64, hw⟩ := hw
      refine z_iast X hW zI_47 g_64 dX9_back_64 (fun M_64 H_64 locs_64 e_64 hW => ?_)
      replace hw := hw M_64 e_64
      obtain ⟨a_65, e_65⟩ : ∃ y : Int32, y = v2 + (1 : Int32) := ⟨_, rfl⟩
      replace hw := hw a_65 e_65
      refine lv_iinc (v := a_65) (lv' := [(2, .int a_65), (0, .ref (ad 42)), (1, .int v1)]) hx hb0 dX9_back_65 hl (k := 2) rfl (by rw [e_65]; rfl) (by decide) rfl (fun ls hl => ?_)
      refine lv_goto (tgt := 2) hx hb0 dX9_back_68 (by decide) ?_
      exact hK2 M_64 L v1 a_65 _ _ ls hw hW (lv_sub hl [1, 2, 0] rfl)
set_option maxRecDepth 20000 in
set_option maxHeartbeats 4000000 in
theorem mX9_back {p : Program} {l : Launch} {e : Env} {s : State} {m : MethodId} {args : Array Value} {below : List Frame} {meth : Method} {c : Code} {cells slots : Nat} {Q : State → Prop} {D : va_G} {cy : Nat → ClassId} {ad : Nat → Nat} {A : Nat → Prop} (X : zCx p rmX9_back s m args c cells slots cX9_back 3 RX9 D cy ad A) (post : Int32 → Mm → Ml → Prop) (hret : zRi p l e rmX9_back s m args below meth c cells slots Q cX9_back D cy ad A .int post) : ∀ (M : Mm) (L : Ml) (x1 : Int32) (H : Heap) (locs : List Loc) (ls : Array Slot), wpX9_back x1 M L post → zWd D cy ad A s H locs M L → lv_has ls 3 [(0, .ref (ad 42)), (1, .int x1)] → W p l e rmX9_back s m args below meth c H locs cells slots Q (F0 m 0 ls []) := by
  have hx := X.1.1; have hb0 := X.1.2.1; have hts := X.1.2.2.2.2
  intro M L x1 H locs ls hw hW hl
  unfold wpX9_back at hw
  refine lv_iconst (v := (0 : Int32)) hx hb0 dX9_back_0 (by decide) ?_
  refine lv_istore_n (lv' := [(2, .int (0 : Int32)), (0, .ref (ad 42)), (1, .int x1)]) hx hb0 dX9_back_1 rfl hl (by decide) rfl (fun ls hl => ?_)
  obtain ⟨n_2, hw⟩ := hw
  exact mX9_back_2 X post hret n_2 M L x1 (0 : Int32) _ _ ls hw hW (lv_sub hl [1, 2, 0] rfl)
theorem kX9_back (l : Launch) (D : va_G) (cy : Nat → ClassId) (ad : Nat → Nat) (hi : zInj ad) (x1 : Int32) : zMi l yX9_back (.code yX9_back cX9_back 3 (some .int) :: zG) rmX9_back D cy ad [.ref (ad 42), .int x1] (wpX9_back x1) :=
  zMi_of (by decide +kernel) (Nat.le_of_ble_eq_true rfl) hi (fun X M L post _ hret ls hl hw hW => mX9_back X post hret M L x1 _ _ ls hw hW hl)
abbrev rmX9_goDays : Room := { frames := 5, cells := 0, slots := 0, locals := 111 }
set_option maxRecDepth 20000 in
set_option maxHeartbeats 4000000 in
theorem mX9_goDays_110 {p : Program} {l : Launch} {e : Env} {s : State} {m : MethodId} {args : Array Value} {below : List Frame} {meth : Method} {c : Code} {cells slots : Nat} {Q : State → Prop} {D : va_G} {cy : Nat → ClassId} {ad : Nat → Nat} {A : Nat → Prop} (X : zCx p rmX9_goDays s m args c cells slots cX9_goDays 3 RX9 D cy ad A) (post : Mm → Ml → Prop) (hret : zRv p l e rmX9_goDays s m args below meth c cells slots Q cX9_goDays D cy ad A post) (K25 : Mm → Ml → Int32 → Prop) (hK25 : ∀ (M : Mm) (L : Ml) (v1 : Int32) (H : Heap) (locs : List Loc) (ls : Array Slot), K25 M L v1 → zWd D cy ad A s H locs M L → lv_has ls 3 [(0, .ref (ad 42)), (1, .int v1)] → W p l e rmX9_goDays s m args below meth c H locs cells slots Q (F0 m 25 ls [])) : ∀ (M : Mm) (L : Ml) (v1 : Int32) (H : Heap) (locs : List Loc) (ls : Array Slot), wpX9_goDays_110 post K25 M L v1 → zWd D cy ad A s H locs M L → lv_has ls 3 [(0, .ref (ad 42)), (1, .int v1)] → W p l e rmX9_goDays s m args below meth c H locs cells slots Q (F0 m 110 ls []) := by
  have hx := X.1.1; have hb0 := X.1.2.1; have hts := X.1.2.2.2.2
  intro M L v1 H locs ls hw hW hl
  unfold wpX9_goDays_110 at hw
  obtain ⟨a_110, e_110⟩ : ∃ y : Int32, y = v1 + (1 : Int32) := ⟨_, rfl⟩
  replace hw := hw a_110 e_110
  refine lv_iinc (v := a_110) (lv' := [(1, .int a_110), (0, .ref (ad 42))]) hx hb0 dX9_goDays_110 hl (k := 1) rfl (by rw [e_110]; rfl) (by decide) rfl (fun ls hl => ?_)
  refine lv_goto (tgt := 25) hx hb0 dX9_goDays_113 (by decide) ?_
  exact hK25 M L a_110 _ _ ls hw hW (lv_sub hl [1, 0] rfl)
set_option maxRecDepth 20000 in
set_option maxHeartbeats 4000000 in
theorem mX9_goDays_87 {p : Program} {l : Launch} {e : Env} {s : State} {m : MethodId} {args : Array Value} {below : List Frame} {meth : Method} {c : Code} {cells slots : Nat} {Q : State → Prop} {D : va_G} {cy : Nat → ClassId} {ad : Nat → Nat} {A : Nat → Prop} (X : zCx p rmX9_goDays s m args c cells slots cX9_goDays 3 RX9 D cy ad A) (post : Mm → Ml → Prop) (hret : zRv p l e rmX9_goDays s m args below meth c cells slots Q cX9_goDays D cy ad A post) (K25 : Mm → Ml → Int32 → Prop) (hK25 : ∀ (M : Mm) (L : Ml) (v1 : Int32) (H : Heap) (locs : List Loc) (ls : Array Slot), K25 M L v1 → zWd D cy ad A s H locs M L → lv_has ls 3 [(0, .ref (ad 42)), (1, .int v1)] → W p l e rmX9_goDays s m args below meth c H locs cells slots Q (F0 m 25 ls [])) : ∀ (M : Mm) (L : Ml) (v1 : Int32) (v2 : Int32) (s0 : Int32) (H : Heap) (locs : List Loc) (ls : Array Slot), wpX9_goDays_87 post K25 M L v1 v2 s0 → zWd D cy ad A s H locs M L → lv_has ls 3 [(0, .ref (ad 42)), (1, .int v1), (2, .int v2)] → W p l e rmX9_goDays s m args below meth c H locs cells slots Q (F0 m 87 ls [.int s0, .ref (ad 42)]) := by
  have hx := X.1.1; have hb0 := X.1.2.1; have hts := X.1.2.2.2.2
  intro M L v1 v2 s0 H locs ls hw hW hl
  unfold wpX9_goDays_87 at hw
  refine z_put (ty := .int) X hW zC7 zF_42_22 (by decide) rfl zl_X9_176 rfl (by decide +kernel) rfl rfl dX9_goDays_87 (fun M_87 H_87 locs_87 e_87 hW => ?_)
  replace hw := hw M_87 e_87
  refine lv_iload_n hx hb0 dX9_goDays_90 rfl (lv_at hl 2 rfl) ?_
  refine lv_if_ne (tgt := 110) hx hb0 dX9_goDays_91 (by decide) (fun c_91 => ?_) (fun c_91 => ?_)
  · replace hw := hw.1 c_91
    exact mX9_goDays_110 X post hret K25 hK25 M_87 L v1 _ _ ls hw hW (lv_sub hl [0, 1] rfl)
  · replace hw := hw.2 c_91
    refine lv_aload_n hx hb0 dX9_goDays_94 rfl (lv_at hl 0 rfl) ?_
    refine lv_aload_n hx hb0 dX9_goDays_95 rfl (lv_at hl 0 rfl) ?_
    refine z_getR (k2 := 54) X hW zC7 zR_42_14 (by decide) rfl zl_X9_43 dX9_goDays_96 ?_
    refine lv_iload_n hx hb0 dX9_goDays_99 rfl (lv_at hl 1 rfl) ?_
    obtain ⟨g_100, hw⟩ := hw
    refine z_iald X hW zI_54 g_100 dX9_goDays_100 ?_
    refine lv_aload_n hx hb0 dX9_goDays_101 rfl (lv_at hl 0 rfl) ?_
    refine z_getR (k2 := 55) X hW zC7 zR_42_15 (by decide) rfl zl_X9_46 dX9_goDays_102 ?_
    refine lv_iload_n hx hb0 dX9_goDays_105 rfl (lv_at hl 1 rfl) ?_
    obtain ⟨g_106, hw⟩ := hw
    refine z_iald X hW zI_55 g_106 dX9_goDays_106 ?_
    refine z_Vv X zO_42 zC7 zc_X9_happen zs_X9_happen zl_X9_182 rfl ⟨rfl, rfl⟩ ⟨Nat.le_of_ble_eq_true rfl, Nat.le_of_ble_eq_true rfl⟩ (kX9_happen l D cy ad X.2.2.2.1 (M_87 54 v1.toNatClampNeg) (M_87 55 v1.toNatClampNeg)) hW hw hl.1 rfl rfl (Nat.le_of_ble_eq_true rfl) dX9_goDays_107 (fun M_107 L_107 H_107 locs_107 hw hW => ?_)
    exact mX9_goDays_110 X post hret K25 hK25 M_107 L_107 v1 _ _ ls hw hW (lv_sub hl [0, 1] rfl)
set_option maxRecDepth 20000 in
set_option maxHeartbeats 4000000 in
theorem mX9_goDays_73 {p : Program} {l : Launch} {e : Env} {s : State} {m : MethodId} {args : Array Value} {below : List Frame} {meth : Method} {c : Code} {cells slots : Nat} {Q : State → Prop} {D : va_G} {cy : Nat → ClassId} {ad : Nat → Nat} {A : Nat → Prop} (X : zCx p rmX9_goDays s m args c cells slots cX9_goDays 3 RX9 D cy ad A) (post : Mm → Ml → Prop) (hret : zRv p l e rmX9_goDays s m args below meth c cells slots Q cX9_goDays D cy ad A post) (K25 : Mm → Ml → Int32 → Prop) (hK25 : ∀ (M : Mm) (L : Ml) (v1 : Int32) (H : Heap) (locs : List Loc) (ls : Array Slot), K25 M L v1 → zWd D cy ad A s H locs M L → lv_has ls 3 [(0, .ref (ad 42)), (1, .int v1)] → W p l e rmX9_goDays s m args below meth c H locs cells slots Q (F0 m 25 ls [])) : ∀ (M : Mm) (L : Ml) (v1 : Int32) (v2 : Int32) (s0 : Int32) (H : Heap) (locs : List Loc) (ls : Array Slot), wpX9_goDays_73 post K25 M L v1 v2 s0 → zWd D cy ad A s H locs M L → lv_has ls 3 [(0, .ref (ad 42)), (1, .int v1), (2, .int v2)] → W p l e rmX9_goDays s m args below meth c H locs cells slots Q (F0 m 73 ls [.int s0, .ref (ad 42)]) := by
  have hx := X.1.1; have hb0 := X.1.2.1; have hts := X.1.2.2.2.2
  intro M L v1 v2 s0 H locs ls hw hW hl
  unfold wpX9_goDays_73 at hw
  refine z_put (ty := .int) X hW zC7 zF_42_21 (by decide) rfl zl_X9_173 rfl (by decide +kernel) rfl rfl dX9_goDays_73 (fun M_73 H_73 locs_73 e_73 hW => ?_)
  replace hw := hw M_73 e_73
  refine lv_aload_n hx hb0 dX9_goDays_76 rfl (lv_at hl 0 rfl) ?_
  refine lv_iload_n hx hb0 dX9_goDays_77 rfl (lv_at hl 2 rfl) ?_
  refine lv_if_le (tgt := 85) hx hb0 dX9_goDays_78 (by decide) (fun c_78 => ?_) (fun c_78 => ?_)
  · replace hw := hw.1 c_78
    refine lv_bipush (v := (-6 : Int32)) hx hb0 dX9_goDays_85 (by decide) ?_
    exact mX9_goDays_87 X post hret K25 hK25 M_73 L v1 v2 (-6 : Int32) _ _ ls hw hW (lv_sub hl [0, 1, 2] rfl)
  · replace hw := hw.2 c_78
    refine lv_iload_n hx hb0 dX9_goDays_81 rfl (lv_at hl 2 rfl) ?_
    refine lv_goto (tgt := 87) hx hb0 dX9_goDays_82 (by decide) ?_
    exact mX9_goDays_87 X post hret K25 hK25 M_73 L v1 v2 v2 _ _ ls hw hW (lv_sub hl [0, 1, 2] rfl)
set_option maxRecDepth 20000 in
set_option maxHeartbeats 4000000 in
theorem mX9_goDays_116 {p : Program} {l : Launch} {e : Env} {s : State} {m : MethodId} {args : Array Value} {below : List Frame} {meth : Method} {c : Code} {cells slots : Nat} {Q : State → Prop} {D : va_G} {cy : Nat → ClassId} {ad : Nat → Nat} {A : Nat → Prop} (X : zCx p rmX9_goDays s m args c cells slots cX9_goDays 3 RX9 D cy ad A) (post : Mm → Ml → Prop) (hret : zRv p l e rmX9_goDays s m args below meth c cells slots Q cX9_goDays D cy ad A post) : ∀ (M : Mm) (L : Ml) (H : Heap) (locs : List Loc) (ls : Array Slot), wpX9_goDays_116 post M L → zWd D cy ad A s H locs M L → lv_has ls 3 [] → W p l e rmX9_goDays s m args below meth c H locs cells slots Q (F0 m 116 ls []) := by
  have hx := X.1.1; have hb0 := X.1.2.1; have hts := X.1.2.2.2.2
  intro M L H locs ls hw hW hl
  unfold wpX9_goDays_116 at hw
  exact hret _ ls _ _ M L dX9_goDays_116 hw hW
set_option maxRecDepth 20000 in
set_option maxHeartbeats 4000000 in
theorem mX9_goDays_25 {p : Program} {l : Launch} {e : Env} {s : State} {m : MethodId} {args : Array Value} {below : List Frame} {meth : Method} {c : Code} {cells slots : Nat} {Q : State → Prop} {D : va_G} {cy : Nat → ClassId} {ad : Nat → Nat} {A : Nat → Prop} (X : zCx p rmX9_goDays s m args c cells slots cX9_goDays 3 RX9 D cy ad A) (post : Mm → Ml → Prop) (hret : zRv p l e rmX9_goDays s m args below meth c cells slots Q cX9_goDays D cy ad A post) : ∀ (j9 : Nat) (M : Mm) (L : Ml) (v1 : Int32) (H : Heap) (locs : List Loc) (ls : Array Slot), wlX9_goDays_25 post j9 (M, L, v1) → zWd D cy ad A s H locs M L → lv_has ls 3 [(0, .ref (ad 42)), (1, .int v1)] → W p l e rmX9_goDays s m args below meth c H locs cells slots Q (F0 m 25 ls []) := by
  have hx := X.1.1; have hb0 := X.1.2.1; have hts := X.1.2.2.2.2
  intro j9
  induction j9 with
  | zero => intro M L v1 H locs ls hw; exact hw.elim
  | succ j9 ih =>
    obtain ⟨K25, hKe⟩ : ∃ K : Mm → Ml → Int32 → Prop, K = fun M L v1 => wlX9_goDays_25 post j9 (M, L, v1) := ⟨_, rfl⟩
    have hK25 : ∀ (M : Mm) (L : Ml) (v1 : Int32) (H : Heap) (locs : List Loc) (ls : Array Slot), K25 M L v1 → zWd D cy ad A s H locs M L → lv_has ls 3 [(0, .ref (ad 42)), (1, .int v1)] → W p l e rmX9_goDays s m args below meth c H locs cells slots Q (F0 m 25 ls []) := by intro M L v1 H locs ls hw; rw [hKe] at hw; exact ih M L v1 H locs ls hw
    intro M L v1 H locs ls hw hW hl
    have hw : wpX9_goDays_25 post K25 M L v1 := by rw [hKe]; exact hw
    clear ih
    unfold wpX9_goDays_25 at hw
    refine lv_iload_n hx hb0 dX9_goDays_25 rfl (lv_at hl 1 rfl) ?_
    refine lv_aload_n hx hb0 dX9_goDays_26 rfl (lv_at hl 0 rfl) ?_
    refine z_getI X hW zC7 zF_42_16 (by decide) rfl zl_X9_123 dX9_goDays_27 ?_
    refine lv_icmp_ge (tgt := 116) hx hb0 dX9_goDays_30 (by decide) (fun c_30 => ?_) (fun c_30 => ?_)
    · replace hw := hw.1 c_30
      exact mX9_goDays_116 X post hret M L _ _ ls hw hW (lv_sub hl [] rfl)
    · replace hw := hw.2 c_30
      refine lv_aload_n hx hb0 dX9_goDays_33 rfl (lv_at hl 0 rfl) ?_
      refine z_getI X hW zC7 zF_42_21 (by decide) rfl zl_X9_173 dX9_goDays_34 ?_
      refine lv_if_ge (tgt := 116) hx hb0 dX9_goDays_37 (by decide) (fun c_37 => ?_) (fun c_37 => ?_)
      · replace hw := hw.1 c_37
        exact mX9_goDays_116 X post hret M L _ _ ls hw hW (lv_sub hl [] rfl)
      · replace hw := hw.2 c_37
        refine lv_aload_n hx hb0 dX9_goDays_40 rfl (lv_at hl 0 rfl) ?_
        refine lv_iload_n hx hb0 dX9_goDays_41 rfl (lv_at hl 1 rfl) ?_
        refine z_put (ty := .int) X hW zC7 zF_42_19 (by decide) rfl zl_X9_157 rfl (by decide +kernel) rfl rfl dX9_goDays_42 (fun M_42 H_42 locs_42 e_42 hW => ?_)
        replace hw := hw M_42 e_42
        refine lv_aload_n hx hb0 dX9_goDays_45 rfl (lv_at hl 0 rfl) ?_
        refine lv_aload_n hx hb0 dX9_goDays_46 rfl (lv_at hl 0 rfl) ?_
        refine z_getR (k2 := 54) X hW zC7 zR_42_14 (by decide) rfl zl_X9_43 dX9_goDays_47 ?_
        refine lv_iload_n hx hb0 dX9_goDays_50 rfl (lv_at hl 1 rfl) ?_
        obtain ⟨g_51, hw⟩ := hw
        refine z_iald X hW zI_54 g_51 dX9_goDays_51 ?_
        refine lv_aload_n hx hb0 dX9_goDays_52 rfl (lv_at hl 0 rfl) ?_
        refine z_getR (k2 := 55) X hW zC7 zR_42_15 (by decide) rfl zl_X9_46 dX9_goDays_53 ?_
        refine lv_iload_n hx hb0 dX9_goDays_56 rfl (lv_at hl 1 rfl) ?_
        obtain ⟨g_57, hw⟩ := hw
        refine z_iald X hW zI_55 g_57 dX9_goDays_57 ?_
        refine z_Vi X zO_42 zC7 zc_X9_whyNot zs_X9_whyNot zl_X9_179 rfl ⟨rfl, rfl⟩ ⟨Nat.le_of_ble_eq_true rfl, Nat.le_of_ble_eq_true rfl⟩ (kX9_whyNot l D cy ad X.2.2.2.1 (M_42 54 v1.toNatClampNeg) (M_42 55 v1.toNatClampNeg)) hW hw hl.1 rfl rfl (Nat.le_of_ble_eq_true rfl) dX9_goDays_58 (fun r_58 M_58 L_58 H_58 locs_58 hw hW => ?_)
        refine lv_istore_n (lv' := [(2, .int r_58), (0, .ref (ad 42)), (1, .int v1)]) hx hb0 dX9_goDays_61 rfl hl (by decide) rfl (fun ls hl => ?_)
        refine lv_aload_n hx hb0 dX9_goDays_62 rfl (lv_at hl 1 rfl) ?_
        refine lv_iload_n hx hb0 dX9_goDays_63 rfl (lv_at hl 0 rfl) ?_
        refine lv_if_le (tgt := 71) hx hb0 dX9_goDays_64 (by decide) (fun c_64 => ?_) (fun c_64 => ?_)
        · replace hw := hw.1 c_64
          refine lv_bipush (v := (-6 : Int32)) hx hb0 dX9_goDays_71 (by decide) ?_
          exact mX9_goDays_73 X post hret K25 hK25 M_58 L_58 v1 r_58 (-6 : Int32) _ _ ls hw hW (lv_sub hl [1, 2, 0] rfl)
        · replace hw := hw.2 c_64
          refine lv_iload_n hx hb0 dX9_goDays_67 rfl (lv_at hl 2 rfl) ?_
          refine lv_goto (tgt := 73) hx hb0 dX9_goDays_68 (by decide) ?_
          exact mX9_goDays_73 X post hret K25 hK25 M_58 L_58 v1 r_58 v1 _ _ ls hw hW (lv_sub hl [1, 2, 0] rfl)
set_option maxRecDepth 20000 in
set_option maxHeartbeats 4000000 in
theorem mX9_goDays {p : Program} {l : Launch} {e : Env} {s : State} {m : MethodId} {args : Array Value} {below : List Frame} {meth : Method} {c : Code} {cells slots : Nat} {Q : State → Prop} {D : va_G} {cy : Nat → ClassId} {ad : Nat → Nat} {A : Nat → Prop} (X : zCx p rmX9_goDays s m args c cells slots cX9_goDays 3 RX9 D cy ad A) (post : Mm → Ml → Prop) (hret : zRv p l e rmX9_goDays s m args below meth c cells slots Q cX9_goDays D cy ad A post) : ∀ (M : Mm) (L : Ml) (H : Heap) (locs : List Loc) (ls : Array Slot), wpX9_goDays M L post → zWd D cy ad A s H locs M L → lv_has ls 3 [(0, .ref (ad 42))] → W p l e rmX9_goDays s m args below meth c H locs cells slots Q (F0 m 0 ls []) := by
  have hx := X.1.1; have hb0 := X.1.2.1; have hts := X.1.2.2.2.2
  intro M L H locs ls hw hW hl
  unfold wpX9_goDays at hw
  refine lv_aload_n hx hb0 dX9_goDays_0 rfl (lv_at hl 0 rfl) ?_
  refine lv_iconst (v := (0 : Int32)) hx hb0 dX9_goDays_1 (by decide) ?_
  refine z_put (ty := .int) X hW zC7 zF_42_17 (by decide) rfl zl_X9_151 rfl (by decide +kernel) rfl rfl dX9_goDays_2 (fun M_2 H_2 locs_2 e_2 hW => ?_)
  replace hw := hw M_2 e_2
  refine lv_aload_n hx hb0 dX9_goDays_5 rfl (lv_at hl 0 rfl) ?_
  refine lv_bipush (v := (-6 : Int32)) hx hb0 dX9_goDays_6 (by decide) ?_
  refine z_put (ty := .int) X hW zC7 zF_42_18 (by decide) rfl zl_X9_154 rfl (by decide +kernel) rfl rfl dX9_goDays_8 (fun M_8 H_8 locs_8 e_8 hW => ?_)
  replace hw := hw M_8 e_8
  refine lv_aload_n hx hb0 dX9_goDays_11 rfl (lv_at hl 0 rfl) ?_
  refine lv_bipush (v := (-6 : Int32)) hx hb0 dX9_goDays_12 (by decide) ?_
  refine z_put (ty := .int) X hW zC7 zF_42_21 (by decide) rfl zl_X9_173 rfl (by decide +kernel) rfl rfl dX9_goDays_14 (fun M_14 H_14 locs_14 e_14 hW => ?_)
  replace hw := hw M_14 e_14
  refine lv_aload_n hx hb0 dX9_goDays_17 rfl (lv_at hl 0 rfl) ?_
  refine lv_bipush (v := (-6 : Int32)) hx hb0 dX9_goDays_18 (by decide) ?_
  refine z_put (ty := .int) X hW zC7 zF_42_22 (by decide) rfl zl_X9_176 rfl (by decide +kernel) rfl rfl dX9_goDays_20 (fun M_20 H_20 locs_20 e_20 hW => ?_)
  replace hw := hw M_20 e_20
  refine lv_iconst (v := (0 : Int32)) hx hb0 dX9_goDays_23 (by decide) ?_
  refine lv_istore_n (lv' := [(1, .int (0 : Int32)), (0, .ref (ad 42))]) hx hb0 dX9_goDays_24 rfl hl (by decide) rfl (fun ls hl => ?_)
  obtain ⟨n_25, hw⟩ := hw
  exact mX9_goDays_25 X post hret n_25 M_20 L (0 : Int32) _ _ ls hw hW (lv_sub hl [1, 0] rfl)
theorem kX9_goDays (l : Launch) (D : va_G) (cy : Nat → ClassId) (ad : Nat → Nat) (hi : zInj ad) : zMv l yX9_goDays (.code yX9_goDays cX9_goDays 3 none :: zG) rmX9_goDays D cy ad [.ref (ad 42)] (wpX9_goDays) :=
  zMv_of (by decide +kernel) (Nat.le_of_ble_eq_true rfl) hi (fun X M L post _ hret ls hl hw hW => mX9_goDays X post hret M L _ _ ls hw hW hl)
abbrev rmX9_refusal : Room := { frames := 6, cells := 0, slots := 0, locals := 133 }
set_option maxRecDepth 20000 in
set_option maxHeartbeats 4000000 in
theorem mX9_refusal_32 {p : Program} {l : Launch} {e : Env} {s : State} {m : MethodId} {args : Array Value} {below : List Frame} {meth : Method} {c : Code} {cells slots : Nat} {Q : State → Prop} {D : va_G} {cy : Nat → ClassId} {ad : Nat → Nat} {A : Nat → Prop} (X : zCx p rmX9_refusal s m args c cells slots cX9_refusal 1 RX9 D cy ad A) (post : Int32 → Mm → Ml → Prop) (hret : zRi p l e rmX9_refusal s m args below meth c cells slots Q cX9_refusal D cy ad A .int post) : ∀ (M : Mm) (L : Ml) (s0 : Int32) (H : Heap) (locs : List Loc) (ls : Array Slot), wpX9_refusal_32 post M L s0 → zWd D cy ad A s H locs M L → lv_has ls 1 [] → W p l e rmX9_refusal s m args below meth c H locs cells slots Q (F0 m 32 ls [.int s0]) := by
  have hx := X.1.1; have hb0 := X.1.2.1; have hts := X.1.2.2.2.2
  intro M L s0 H locs ls hw hW hl
  unfold wpX9_refusal_32 at hw
  exact hret _ ls _ _ s0 M L dX9_refusal_32 rfl hw hW
set_option maxRecDepth 20000 in
set_option maxHeartbeats 4000000 in
theorem mX9_refusal {p : Program} {l : Launch} {e : Env} {s : State} {m : MethodId} {args : Array Value} {below : List Frame} {meth : Method} {c : Code} {cells slots : Nat} {Q : State → Prop} {D : va_G} {cy : Nat → ClassId} {ad : Nat → Nat} {A : Nat → Prop} (X : zCx p rmX9_refusal s m args c cells slots cX9_refusal 1 RX9 D cy ad A) (post : Int32 → Mm → Ml → Prop) (hret : zRi p l e rmX9_refusal s m args below meth c cells slots Q cX9_refusal D cy ad A .int post) : ∀ (M : Mm) (L : Ml) (H : Heap) (locs : List Loc) (ls : Array Slot), wpX9_refusal M L post → zWd D cy ad A s H locs M L → lv_has ls 1 [(0, .ref (ad 42))] → W p l e rmX9_refusal s m args below meth c H locs cells slots Q (F0 m 0 ls []) := by
  have hx := X.1.1; have hb0 := X.1.2.1; have hts := X.1.2.2.2.2
  intro M L H locs ls hw hW hl
  unfold wpX9_refusal at hw
  refine lv_aload_n hx hb0 dX9_refusal_0 rfl (lv_at hl 0 rfl) ?_
  refine z_Vv X zO_42 zC7 zc_X9_keepNow zs_X9_keepNow zl_X9_185 rfl ⟨rfl, rfl⟩ ⟨Nat.le_of_ble_eq_true rfl, Nat.le_of_ble_eq_true rfl⟩ (kX9_keepNow l D cy ad X.2.2.2.1) hW hw hl.1 rfl rfl (Nat.le_of_ble_eq_true rfl) dX9_refusal_1 (fun M_1 L_1 H_1 locs_1 hw hW => ?_)
  refine lv_aload_n hx hb0 dX9_refusal_4 rfl (lv_at hl 0 rfl) ?_
  refine z_Vi X zO_42 zC7 zc_X9_fault zs_X9_fault zl_X9_188 rfl ⟨rfl, rfl⟩ ⟨Nat.le_of_ble_eq_true rfl, Nat.le_of_ble_eq_true rfl⟩ (kX9_fault l D cy ad X.2.2.2.1) hW hw hl.1 rfl rfl (Nat.le_of_ble_eq_true rfl) dX9_refusal_5 (fun r_5 M_5 L_5 H_5 locs_5 hw hW => ?_)
  refine lv_if_lt (tgt := 14) hx hb0 dX9_refusal_8 (by decide) (fun c_8 => ?_) (fun c_8 => ?_)
  · replace hw := hw.1 c_8
    refine lv_aload_n hx hb0 dX9_refusal_14 rfl (lv_at hl 0 rfl) ?_
    refine z_Vv X zO_42 zC7 zc_X9_goDays zs_X9_goDays zl_X9_191 rfl ⟨rfl, rfl⟩ ⟨Nat.le_of_ble_eq_true rfl, Nat.le_of_ble_eq_true rfl⟩ (kX9_goDays l D cy ad X.2.2.2.1) hW hw hl.1 rfl rfl (Nat.le_of_ble_eq_true rfl) dX9_refusal_15 (fun M_15 L_15 H_15 locs_15 hw hW => ?_)
    refine lv_aload_n hx hb0 dX9_refusal_18 rfl (lv_at hl 0 rfl) ?_
    refine z_getI X hW zC7 zF_42_21 (by decide) rfl zl_X9_173 dX9_refusal_19 ?_
    refine lv_if_lt (tgt := 30) hx hb0 dX9_refusal_22 (by decide) (fun c_22 => ?_) (fun c_22 => ?_)
    · replace hw := hw.1 c_22
      refine lv_bipush (v := (-6 : Int32)) hx hb0 dX9_refusal_30 (by decide) ?_
      exact mX9_refusal_32 X post hret M_15 L_15 (-6 : Int32) _ _ ls hw hW (lv_sub hl [] rfl)
    · replace hw := hw.2 c_22
      refine lv_bipush (v := (-3 : Int32)) hx hb0 dX9_refusal_25 (by decide) ?_
      refine lv_goto (tgt := 32) hx hb0 dX9_refusal_27 (by decide) ?_
      exact mX9_refusal_32 X post hret M_15 L_15 (-3 : Int32) _ _ ls hw hW (lv_sub hl [] rfl)
  · replace hw := hw.2 c_8
    refine lv_bipush (v := (-5 : Int32)) hx hb0 dX9_refusal_11 (by decide) ?_
    exact hret _ ls _ _ (-5 : Int32) M_5 L_5 dX9_refusal_13 rfl hw hW
theorem kX9_refusal (l : Launch) (D : va_G) (cy : Nat → ClassId) (ad : Nat → Nat) (hi : zInj ad) : zMi l yX9_refusal (.code yX9_refusal cX9_refusal 1 (some .int) :: zG) rmX9_refusal D cy ad [.ref (ad 42)] (wpX9_refusal) :=
  zMi_of (by decide +kernel) (Nat.le_of_ble_eq_true rfl) hi (fun X M L post _ hret ls hl hw hW => mX9_refusal X post hret M L _ _ ls hw hW hl)
abbrev rmX9_judge : Room := { frames := 7, cells := 0, slots := 0, locals := 153 }
set_option maxRecDepth 20000 in
set_option maxHeartbeats 4000000 in
theorem mX9_judge_41 {p : Program} {l : Launch} {e : Env} {s : State} {m : MethodId} {args : Array Value} {below : List Frame} {meth : Method} {c : Code} {cells slots : Nat} {Q : State → Prop} {D : va_G} {cy : Nat → ClassId} {ad : Nat → Nat} {A : Nat → Prop} (X : zCx p rmX9_judge s m args c cells slots cX9_judge 3 RX9 D cy ad A) (post : Int32 → Mm → Ml → Prop) (hret : zRi p l e rmX9_judge s m args below meth c cells slots Q cX9_judge D cy ad A .int post) : ∀ (M : Mm) (L : Ml) (v2 : Int32) (H : Heap) (locs : List Loc) (ls : Array Slot), wpX9_judge_41 post M L v2 → zWd D cy ad A s H locs M L → lv_has ls 3 [(2, .int v2)] → W p l e rmX9_judge s m args below meth c H locs cells slots Q (F0 m 41 ls []) := by
  have hx := X.1.1; have hb0 := X.1.2.1; have hts := X.1.2.2.2.2
  intro M L v2 H locs ls hw hW hl
  unfold wpX9_judge_41 at hw
  refine lv_iload_n hx hb0 dX9_judge_41 rfl (lv_at hl 0 rfl) ?_
  exact hret _ ls _ _ v2 M L dX9_judge_42 rfl hw hW
set_option maxRecDepth 20000 in
set_option maxHeartbeats 4000000 in
theorem mX9_judge_70 {p : Program} {l : Launch} {e : Env} {s : State} {m : MethodId} {args : Array Value} {below : List Frame} {meth : Method} {c : Code} {cells slots : Nat} {Q : State → Prop} {D : va_G} {cy : Nat → ClassId} {ad : Nat → Nat} {A : Nat → Prop} (X : zCx p rmX9_judge s m args c cells slots cX9_judge 3 RX9 D cy ad A) (post : Int32 → Mm → Ml → Prop) (hret : zRi p l e rmX9_judge s m args below meth c cells slots Q cX9_judge D cy ad A .int post) : ∀ (M : Mm) (L : Ml) (s0 : Int32) (H : Heap) (locs : List Loc) (ls : Array Slot), wpX9_judge_70 post M L s0 → zWd D cy ad A s H locs M L → lv_has ls 3 [] → W p l e rmX9_judge s m args below meth c H locs cells slots Q (F0 m 70 ls [.int s0]) := by
  have hx := X.1.1; have hb0 := X.1.2.1; have hts := X.1.2.2.2.2
  intro M L s0 H locs ls hw hW hl
  unfold wpX9_judge_70 at hw
  exact hret _ ls _ _ s0 M L dX9_judge_70 rfl hw hW
set_option maxRecDepth 20000 in
set_option maxHeartbeats 4000000 in
theorem mX9_judge_43 {p : Program} {l : Launch} {e : Env} {s : State} {m : MethodId} {args : Array Value} {below : List Frame} {meth : Method} {c : Code} {cells slots : Nat} {Q : State → Prop} {D : va_G} {cy : Nat → ClassId} {ad : Nat → Nat} {A : Nat → Prop} (X : zCx p rmX9_judge s m args c cells slots cX9_judge 3 RX9 D cy ad A) (post : Int32 → Mm → Ml → Prop) (hret : zRi p l e rmX9_judge s m args below meth c cells slots Q cX9_judge D cy ad A .int post) : ∀ (M : Mm) (L : Ml) (v1 : Int32) (H : Heap) (locs : List Loc) (ls : Array Slot), wpX9_judge_43 post M L v1 → zWd D cy ad A s H locs M L → lv_has ls 3 [(0, .ref (ad 42)), (1, .int v1)] → W p l e rmX9_judge s m args below meth c H locs cells slots Q (F0 m 43 ls []) := by
  have hx := X.1.1; have hb0 := X.1.2.1; have hts := X.1.2.2.2.2
  intro M L v1 H locs ls hw hW hl
  unfold wpX9_judge_43 at hw
  refine lv_iload_n hx hb0 dX9_judge_43 rfl (lv_at hl 1 rfl) ?_
  refine lv_if_ne (tgt := 54) hx hb0 dX9_judge_44 (by decide) (fun c_44 => ?_) (fun c_44 => ?_)
  · replace hw := hw.1 c_44
    refine lv_iload_n hx hb0 dX9_judge_54 rfl (lv_at hl 1 rfl) ?_
    refine lv_iconst (v := (1 : Int32)) hx hb0 dX9_judge_55 (by decide) ?_
    refine lv_icmp_ne (tgt := 66) hx hb0 dX9_judge_56 (by decide) (fun c_56 => ?_) (fun c_56 => ?_)
    · replace hw := hw.1 c_56
      refine lv_aload_n hx hb0 dX9_judge_66 rfl (lv_at hl 0 rfl) ?_
      refine z_getI X hW zC7 zF_42_17 (by decide) rfl zl_X9_151 dX9_judge_67 ?_
      exact mX9_judge_70 X post hret M L (M 42 17) _ _ ls hw hW (lv_sub hl [] rfl)
    · replace hw := hw.2 c_56
      refine lv_aload_n hx hb0 dX9_judge_59 rfl (lv_at hl 0 rfl) ?_
      refine z_getI X hW zC7 zF_42_22 (by decide) rfl zl_X9_176 dX9_judge_60 ?_
      refine lv_goto (tgt := 70) hx hb0 dX9_judge_63 (by decide) ?_
      exact mX9_judge_70 X post hret M L (M 42 22) _ _ ls hw hW (lv_sub hl [] rfl)
  · replace hw := hw.2 c_44
    refine lv_aload_n hx hb0 dX9_judge_47 rfl (lv_at hl 0 rfl) ?_
    refine z_getI X hW zC7 zF_42_21 (by decide) rfl zl_X9_173 dX9_judge_48 ?_
    refine lv_goto (tgt := 70) hx hb0 dX9_judge_51 (by decide) ?_
    exact mX9_judge_70 X post hret M L (M 42 21) _ _ ls hw hW (lv_sub hl [] rfl)
set_option maxRecDepth 20000 in
set_option maxHeartbeats 4000000 in
theorem mX9_judge {p : Program} {l : Launch} {e : Env} {s : State} {m : MethodId} {args : Array Value} {below : List Frame} {meth : Method} {c : Code} {cells slots : Nat} {Q : State → Prop} {D : va_G} {cy : Nat → ClassId} {ad : Nat → Nat} {A : Nat → Prop} (X : zCx p rmX9_judge s m args c cells slots cX9_judge 3 RX9 D cy ad A) (post : Int32 → Mm → Ml → Prop) (hret : zRi p l e rmX9_judge s m args below meth c cells slots Q cX9_judge D cy ad A .int post) : ∀ (M : Mm) (L : Ml) (x1 : Int32) (H : Heap) (locs : List Loc) (ls : Array Slot), wpX9_judge x1 M L post → zWd D cy ad A s H locs M L → lv_has ls 3 [(0, .ref (ad 42)), (1, .int x1)] → W p l e rmX9_judge s m args below meth c H locs cells slots Q (F0 m 0 ls []) := by
  have hx := X.1.1; have hb0 := X.1.2.1; have hts := X.1.2.2.2.2
  intro M L x1 H locs ls hw hW hl
  unfold wpX9_judge at hw
  refine lv_iload_n hx hb0 dX9_judge_0 rfl (lv_at hl 1 rfl) ?_
  refine lv_i2l hx hb0 dX9_judge_1 rfl ?_
  refine lv_lconst (v := (0 : Int64)) hx hb0 dX9_judge_2 (by decide) ?_
  refine lv_ldc2 (v := (2 : Int64)) hx hb0 X.1.2.2.2.1 (hts _ zk_X9_194) dX9_judge_3 ?_
  refine z_Si X zc_X9_in zt_X9_in zl_X9_86 rfl ⟨rfl, rfl⟩ ⟨Nat.le_of_ble_eq_true rfl, Nat.le_of_ble_eq_true rfl⟩ (kX9_in l D cy ad X.2.2.2.1 (x1.toInt64) (0 : Int64) (2 : Int64)) hW hw hl.1 rfl rfl (Nat.le_of_ble_eq_true rfl) dX9_judge_6 (fun r_6 M_6 L_6 H_6 locs_6 hw hW => ?_)
  refine lv_if_ne (tgt := 15) hx hb0 dX9_judge_9 (by decide) (fun c_9 => ?_) (fun c_9 => ?_)
  · replace hw := hw.1 c_9
    refine lv_aload_n hx hb0 dX9_judge_15 rfl (lv_at hl 0 rfl) ?_
    refine lv_aload_n hx hb0 dX9_judge_16 rfl (lv_at hl 0 rfl) ?_
    refine z_Vi X zO_42 zC7 zc_X9_refusal zs_X9_refusal zl_X9_196 rfl ⟨rfl, rfl⟩ ⟨Nat.le_of_ble_eq_true rfl, Nat.le_of_ble_eq_true rfl⟩ (kX9_refusal l D cy ad X.2.2.2.1) hW hw hl.1 rfl rfl (Nat.le_of_ble_eq_true rfl) dX9_judge_17 (fun r_17 M_17 L_17 H_17 locs_17 hw hW => ?_)
    refine z_Vi X zO_42 zC7 zc_X9_back zs_X9_back zl_X9_199 rfl ⟨rfl, rfl⟩ ⟨Nat.le_of_ble_eq_true rfl, Nat.le_of_ble_eq_true rfl⟩ (kX9_back l D cy ad X.2.2.2.1 r_17) hW hw hl.1 rfl rfl (Nat.le_of_ble_eq_true rfl) dX9_judge_20 (fun r_20 M_20 L_20 H_20 locs_20 hw hW => ?_)
    refine lv_istore_n (lv' := [(2, .int r_20), (0, .ref (ad 42)), (1, .int x1)]) hx hb0 dX9_judge_23 rfl hl (by decide) rfl (fun ls hl => ?_)
    refine lv_iload_n hx hb0 dX9_judge_24 rfl (lv_at hl 0 rfl) ?_
    refine lv_bipush (v := (-5 : Int32)) hx hb0 dX9_judge_25 (by decide) ?_
    refine lv_icmp_eq (tgt := 41) hx hb0 dX9_judge_27 (by decide) (fun c_27 => ?_) (fun c_27 => ?_)
    · replace hw := hw.1 c_27
      exact mX9_judge_41 X post hret M_20 L_20 r_20 _ _ ls hw hW (lv_sub hl [0] rfl)
    · replace hw := hw.2 c_27
      refine lv_iload_n hx hb0 dX9_judge_30 rfl (lv_at hl 2 rfl) ?_
      refine lv_iconst (v := (1 : Int32)) hx hb0 dX9_judge_31 (by decide) ?_
      refine lv_icmp_le (tgt := 43) hx hb0 dX9_judge_32 (by decide) (fun c_32 => ?_) (fun c_32 => ?_)
      · replace hw := hw.1 c_32
        exact mX9_judge_43 X post hret M_20 L_20 x1 _ _ ls hw hW (lv_sub hl [1, 2] rfl)
      · replace hw := hw.2 c_32
        refine lv_iload_n hx hb0 dX9_judge_35 rfl (lv_at hl 0 rfl) ?_
        refine lv_bipush (v := (-3 : Int32)) hx hb0 dX9_judge_36 (by decide) ?_
        refine lv_icmp_ne (tgt := 43) hx hb0 dX9_judge_38 (by decide) (fun c_38 => ?_) (fun c_38 => ?_)
        · replace hw := hw.1 c_38
          exact mX9_judge_43 X post hret M_20 L_20 x1 _ _ ls hw hW (lv_sub hl [1, 2] rfl)
        · replace hw := hw.2 c_38
          exact mX9_judge_41 X post hret M_20 L_20 r_20 _ _ ls hw hW (lv_sub hl [0] rfl)
  · replace hw := hw.2 c_9
    refine lv_bipush (v := (-2 : Int32)) hx hb0 dX9_judge_12 (by decide) ?_
    exact hret _ ls _ _ (-2 : Int32) M_6 L_6 dX9_judge_14 rfl hw hW
theorem kX9_judge (l : Launch) (D : va_G) (cy : Nat → ClassId) (ad : Nat → Nat) (hi : zInj ad) (x1 : Int32) : zMi l yX9_judge (.code yX9_judge cX9_judge 3 (some .int) :: zG) rmX9_judge D cy ad [.ref (ad 42), .int x1] (wpX9_judge x1) :=
  zMi_of (by decide +kernel) (Nat.le_of_ble_eq_true rfl) hi (fun X M L post _ hret ls hl hw hW => mX9_judge X post hret M L x1 _ _ ls hw hW hl)
abbrev rmX9_ofFlake : Room := { frames := 0, cells := 0, slots := 0, locals := 0 }
set_option maxRecDepth 20000 in
set_option maxHeartbeats 4000000 in
theorem mX9_ofFlake {p : Program} {l : Launch} {e : Env} {s : State} {m : MethodId} {args : Array Value} {below : List Frame} {meth : Method} {c : Code} {cells slots : Nat} {Q : State → Prop} {D : va_G} {cy : Nat → ClassId} {ad : Nat → Nat} {A : Nat → Prop} (X : zCx p rmX9_ofFlake s m args c cells slots cX9_ofFlake 3 RX9 D cy ad A) (post : Int32 → Mm → Ml → Prop) (hret : zRi p l e rmX9_ofFlake s m args below meth c cells slots Q cX9_ofFlake D cy ad A .int post) : ∀ (M : Mm) (L : Ml) (x1 : Int32) (x2 : Int32) (H : Heap) (locs : List Loc) (ls : Array Slot), wpX9_ofFlake x1 x2 M L post → zWd D cy ad A s H locs M L → lv_has ls 3 [(0, .ref (ad 42)), (1, .int x1), (2, .int x2)] → W p l e rmX9_ofFlake s m args below meth c H locs cells slots Q (F0 m 0 ls []) := by
  have hx := X.1.1; have hb0 := X.1.2.1; have hts := X.1.2.2.2.2
  intro M L x1 x2 H locs ls hw hW hl
  unfold wpX9_ofFlake at hw
  refine lv_iload_n hx hb0 dX9_ofFlake_0 rfl (lv_at hl 2 rfl) ?_
  by_cases c_1_0 : x2 = (0 : Int32)
  · replace hw := hw.1 c_1_0
    refine lv_tableIn (tgt := 28) (off := 27) hx hb0 dX9_ofFlake_1 (by rw [c_1_0]; decide) (by rw [c_1_0]; decide) (by rw [c_1_0]; rfl) (by decide) ?_
    refine lv_aload_n hx hb0 dX9_ofFlake_28 rfl (lv_at hl 0 rfl) ?_
    refine z_getR (k2 := 43) X hW zC7 zR_42_1 (by decide) rfl zl_X9_7 dX9_ofFlake_29 ?_
    refine lv_iload_n hx hb0 dX9_ofFlake_32 rfl (lv_at hl 1 rfl) ?_
    obtain ⟨g_33, hw⟩ := hw
    refine z_iald X hW zI_43 g_33 dX9_ofFlake_33 ?_
    exact hret _ ls _ _ (M 43 x1.toNatClampNeg) M L dX9_ofFlake_34 rfl hw hW
  · replace hw := hw.2 c_1_0
    by_cases c_1_1 : x2 = (1 : Int32)
    · replace hw := hw.1 c_1_1
      refine lv_tableIn (tgt := 35) (off := 34) hx hb0 dX9_ofFlake_1 (by rw [c_1_1]; decide) (by rw [c_1_1]; decide) (by rw [c_1_1]; rfl) (by decide) ?_
      refine lv_aload_n hx hb0 dX9_ofFlake_35 rfl (lv_at hl 0 rfl) ?_
      refine z_getR (k2 := 44) X hW zC7 zR_42_2 (by decide) rfl zl_X9_13 dX9_ofFlake_36 ?_
      refine lv_iload_n hx hb0 dX9_ofFlake_39 rfl (lv_at hl 1 rfl) ?_
      obtain ⟨g_40, hw⟩ := hw
      refine z_iald X hW zI_44 g_40 dX9_ofFlake_40 ?_
      exact hret _ ls _ _ (M 44 x1.toNatClampNeg) M L dX9_ofFlake_41 rfl hw hW
    · replace hw := hw.2 c_1_1
      by_cases c_1_2 : x2 = (2 : Int32)
      · replace hw := hw.1 c_1_2
        refine lv_tableIn (tgt := 42) (off := 41) hx hb0 dX9_ofFlake_1 (by rw [c_1_2]; decide) (by rw [c_1_2]; decide) (by rw [c_1_2]; rfl) (by decide) ?_
        refine lv_aload_n hx hb0 dX9_ofFlake_42 rfl (lv_at hl 0 rfl) ?_
        refine z_getR (k2 := 45) X hW zC7 zR_42_3 (by decide) rfl zl_X9_16 dX9_ofFlake_43 ?_
        refine lv_iload_n hx hb0 dX9_ofFlake_46 rfl (lv_at hl 1 rfl) ?_
        obtain ⟨g_47, hw⟩ := hw
        refine z_iald X hW zI_45 g_47 dX9_ofFlake_47 ?_
        exact hret _ ls _ _ (M 45 x1.toNatClampNeg) M L dX9_ofFlake_48 rfl hw hW
      · replace hw := hw.2 c_1_2
        refine lv_tableOut (tgt := 49) hx hb0 dX9_ofFlake_1 (by have q0 : ¬ x2.toInt = 0 := lv_neT c_1_0 (by decide); have q1 : ¬ x2.toInt = 1 := lv_neT c_1_1 (by decide); have q2 : ¬ x2.toInt = 2 := lv_neT c_1_2 (by decide); omega) (by decide) ?_
        refine lv_aload_n hx hb0 dX9_ofFlake_49 rfl (lv_at hl 0 rfl) ?_
        refine z_getR (k2 := 47) X hW zC7 zR_42_5 (by decide) rfl zl_X9_22 dX9_ofFlake_50 ?_
        refine lv_iload_n hx hb0 dX9_ofFlake_53 rfl (lv_at hl 1 rfl) ?_
        obtain ⟨g_54, hw⟩ := hw
        refine z_iald X hW zI_47 g_54 dX9_ofFlake_54 ?_
        exact hret _ ls _ _ (M 47 x1.toNatClampNeg) M L dX9_ofFlake_55 rfl hw hW
theorem kX9_ofFlake (l : Launch) (D : va_G) (cy : Nat → ClassId) (ad : Nat → Nat) (hi : zInj ad) (x1 : Int32) (x2 : Int32) : zMi l yX9_ofFlake (.code yX9_ofFlake cX9_ofFlake 3 (some .int) :: zG) rmX9_ofFlake D cy ad [.ref (ad 42), .int x1, .int x2] (wpX9_ofFlake x1 x2) :=
  zMi_of (by decide +kernel) (Nat.le_of_ble_eq_true rfl) hi (fun X M L post _ hret ls hl hw hW => mX9_ofFlake X post hret M L x1 x2 _ _ ls hw hW hl)
abbrev rmX9_behind : Room := { frames := 7, cells := 0, slots := 0, locals := 153 }
set_option maxRecDepth 20000 in
set_option maxHeartbeats 4000000 in
theorem mX9_behind_47 {p : Program} {l : Launch} {e : Env} {s : State} {m : MethodId} {args : Array Value} {below : List Frame} {meth : Method} {c : Code} {cells slots : Nat} {Q : State → Prop} {D : va_G} {cy : Nat → ClassId} {ad : Nat → Nat} {A : Nat → Prop} (X : zCx p rmX9_behind s m args c cells slots cX9_behind 4 RX9 D cy ad A) (post : Int32 → Mm → Ml → Prop) (hret : zRi p l e rmX9_behind s m args below meth c cells slots Q cX9_behind D cy ad A .int post) : ∀ (M : Mm) (L : Ml) (s0 : Int32) (H : Heap) (locs : List Loc) (ls : Array Slot), wpX9_behind_47 post M L s0 → zWd D cy ad A s H locs M L → lv_has ls 4 [] → W p l e rmX9_behind s m args below meth c H locs cells slots Q (F0 m 47 ls [.int s0, .ref (ad 42)]) := by
  have hx := X.1.1; have hb0 := X.1.2.1; have hts := X.1.2.2.2.2
  intro M L s0 H locs ls hw hW hl
  unfold wpX9_behind_47 at hw
  refine z_Vi X zO_42 zC7 zc_X9_back zs_X9_back zl_X9_199 rfl ⟨rfl, rfl⟩ ⟨Nat.le_of_ble_eq_true rfl, Nat.le_of_ble_eq_true rfl⟩ (kX9_back l D cy ad X.2.2.2.1 s0) hW hw hl.1 rfl rfl (Nat.le_of_ble_eq_true rfl) dX9_behind_47 (fun r_47 M_47 L_47 H_47 locs_47 hw hW => ?_)
  exact hret _ ls _ _ r_47 M_47 L_47 dX9_behind_50 rfl hw hW
set_option maxRecDepth 20000 in
set_option maxHeartbeats 4000000 in
theorem mX9_behind {p : Program} {l : Launch} {e : Env} {s : State} {m : MethodId} {args : Array Value} {below : List Frame} {meth : Method} {c : Code} {cells slots : Nat} {Q : State → Prop} {D : va_G} {cy : Nat → ClassId} {ad : Nat → Nat} {A : Nat → Prop} (X : zCx p rmX9_behind s m args c cells slots cX9_behind 4 RX9 D cy ad A) (post : Int32 → Mm → Ml → Prop) (hret : zRi p l e rmX9_behind s m args below meth c cells slots Q cX9_behind D cy ad A .int post) : ∀ (M : Mm) (L : Ml) (x1 : Int32) (x2 : Int32) (H : Heap) (locs : List Loc) (ls : Array Slot), wpX9_behind x1 x2 M L post → zWd D cy ad A s H locs M L → lv_has ls 4 [(0, .ref (ad 42)), (1, .int x1), (2, .int x2)] → W p l e rmX9_behind s m args below meth c H locs cells slots Q (F0 m 0 ls []) := by
  have hx := X.1.1; have hb0 := X.1.2.1; have hts := X.1.2.2.2.2
  intro M L x1 x2 H locs ls hw hW hl
  unfold wpX9_behind at hw
  refine lv_aload_n hx hb0 dX9_behind_0 rfl (lv_at hl 0 rfl) ?_
  refine lv_iload_n hx hb0 dX9_behind_1 rfl (lv_at hl 1 rfl) ?_
  refine z_Vi X zO_42 zC7 zc_X9_isFlake zs_X9_isFlake zl_X9_113 rfl ⟨rfl, rfl⟩ ⟨Nat.le_of_ble_eq_true rfl, Nat.le_of_ble_eq_true rfl⟩ (kX9_isFlake l D cy ad X.2.2.2.1 x1) hW hw hl.1 rfl rfl (Nat.le_of_ble_eq_true rfl) dX9_behind_2 (fun r_2 M_2 L_2 H_2 locs_2 hw hW => ?_)
  refine lv_if_ne (tgt := 10) hx hb0 dX9_behind_5 (by decide) (fun c_5 => ?_) (fun c_5 => ?_)
  · replace hw := hw.1 c_5
    refine lv_iload_n hx hb0 dX9_behind_10 rfl (lv_at hl 2 rfl) ?_
    refine lv_i2l hx hb0 dX9_behind_11 rfl ?_
    refine lv_lconst (v := (0 : Int64)) hx hb0 dX9_behind_12 (by decide) ?_
    refine lv_ldc2 (v := (3 : Int64)) hx hb0 X.1.2.2.2.1 (hts _ zk_X9_202) dX9_behind_13 ?_
    refine z_Si X zc_X9_in zt_X9_in zl_X9_86 rfl ⟨rfl, rfl⟩ ⟨Nat.le_of_ble_eq_true rfl, Nat.le_of_ble_eq_true rfl⟩ (kX9_in l D cy ad X.2.2.2.1 (x2.toInt64) (0 : Int64) (3 : Int64)) hW hw hl.1 rfl rfl (Nat.le_of_ble_eq_true rfl) dX9_behind_16 (fun r_16 M_16 L_16 H_16 locs_16 hw hW => ?_)
    refine lv_if_ne (tgt := 25) hx hb0 dX9_behind_19 (by decide) (fun c_19 => ?_) (fun c_19 => ?_)
    · replace hw := hw.1 c_19
      refine lv_aload_n hx hb0 dX9_behind_25 rfl (lv_at hl 0 rfl) ?_
      refine z_Vi X zO_42 zC7 zc_X9_refusal zs_X9_refusal zl_X9_196 rfl ⟨rfl, rfl⟩ ⟨Nat.le_of_ble_eq_true rfl, Nat.le_of_ble_eq_true rfl⟩ (kX9_refusal l D cy ad X.2.2.2.1) hW hw hl.1 rfl rfl (Nat.le_of_ble_eq_true rfl) dX9_behind_26 (fun r_26 M_26 L_26 H_26 locs_26 hw hW => ?_)
      refine lv_istore_n (lv' := [(3, .int r_26), (0, .ref (ad 42)), (1, .int x1), (2, .int x2)]) hx hb0 dX9_behind_29 rfl hl (by decide) rfl (fun ls hl => ?_)
      refine lv_aload_n hx hb0 dX9_behind_30 rfl (lv_at hl 1 rfl) ?_
      refine lv_iload_n hx hb0 dX9_behind_31 rfl (lv_at hl 0 rfl) ?_
      refine lv_bipush (v := (-6 : Int32)) hx hb0 dX9_behind_32 (by decide) ?_
      refine lv_icmp_eq (tgt := 41) hx hb0 dX9_behind_34 (by decide) (fun c_34 => ?_) (fun c_34 => ?_)
      · replace hw := hw.1 c_34
        refine lv_aload_n hx hb0 dX9_behind_41 rfl (lv_at hl 1 rfl) ?_
        refine lv_iload_n hx hb0 dX9_behind_42 rfl (lv_at hl 2 rfl) ?_
        refine lv_iload_n hx hb0 dX9_behind_43 rfl (lv_at hl 3 rfl) ?_
        refine z_Vi X zO_42 zC7 zc_X9_ofFlake zs_X9_ofFlake zl_X9_204 rfl ⟨rfl, rfl⟩ ⟨Nat.le_of_ble_eq_true rfl, Nat.le_of_ble_eq_true rfl⟩ (kX9_ofFlake l D cy ad X.2.2.2.1 x1 x2) hW hw hl.1 rfl rfl (Nat.le_of_ble_eq_true rfl) dX9_behind_44 (fun r_44 M_44 L_44 H_44 locs_44 hw hW => ?_)
        exact mX9_behind_47 X post hret M_44 L_44 r_44 _ _ ls hw hW (lv_sub hl [] rfl)
      · replace hw := hw.2 c_34
        refine lv_iload_n hx hb0 dX9_behind_37 rfl (lv_at hl 0 rfl) ?_
        refine lv_goto (tgt := 47) hx hb0 dX9_behind_38 (by decide) ?_
        exact mX9_behind_47 X post hret M_26 L_26 r_26 _ _ ls hw hW (lv_sub hl [] rfl)
    · replace hw := hw.2 c_19
      refine lv_bipush (v := (-2 : Int32)) hx hb0 dX9_behind_22 (by decide) ?_
      exact hret _ ls _ _ (-2 : Int32) M_16 L_16 dX9_behind_24 rfl hw hW
  · replace hw := hw.2 c_5
    refine lv_iconst (v := (-1 : Int32)) hx hb0 dX9_behind_8 (by decide) ?_
    exact hret _ ls _ _ (-1 : Int32) M_2 L_2 dX9_behind_9 rfl hw hW
theorem kX9_behind (l : Launch) (D : va_G) (cy : Nat → ClassId) (ad : Nat → Nat) (hi : zInj ad) (x1 : Int32) (x2 : Int32) : zMi l yX9_behind (.code yX9_behind cX9_behind 4 (some .int) :: zG) rmX9_behind D cy ad [.ref (ad 42), .int x1, .int x2] (wpX9_behind x1 x2) :=
  zMi_of (by decide +kernel) (Nat.le_of_ble_eq_true rfl) hi (fun X M L post _ hret ls hl hw hW => mX9_behind X post hret M L x1 x2 _ _ ls hw hW hl)
abbrev rmX9_flakesOf : Room := { frames := 2, cells := 0, slots := 0, locals := 46 }
set_option maxRecDepth 20000 in
set_option maxHeartbeats 4000000 in
theorem mX9_flakesOf_36 {p : Program} {l : Launch} {e : Env} {s : State} {m : MethodId} {args : Array Value} {below : List Frame} {meth : Method} {c : Code} {cells slots : Nat} {Q : State → Prop} {D : va_G} {cy : Nat → ClassId} {ad : Nat → Nat} {A : Nat → Prop} (X : zCx p rmX9_flakesOf s m args c cells slots cX9_flakesOf 4 RX9 D cy ad A) (post : Int32 → Mm → Ml → Prop) (hret : zRi p l e rmX9_flakesOf s m args below meth c cells slots Q cX9_flakesOf D cy ad A .int post) (K4 : Mm → Ml → Int32 → Int32 → Int32 → Prop) (hK4 : ∀ (M : Mm) (L : Ml) (v1 : Int32) (v2 : Int32) (v3 : Int32) (H : Heap) (locs : List Loc) (ls : Array Slot), K4 M L v1 v2 v3 → zWd D cy ad A s H locs M L → lv_has ls 4 [(0, .ref (ad 42)), (1, .int v1), (2, .int v2), (3, .int v3)] → W p l e rmX9_flakesOf s m args below meth c H locs cells slots Q (F0 m 4 ls [])) : ∀ (M : Mm) (L : Ml) (v1 : Int32) (v3 : Int32) (s0 : Int32) (s1 : Int32) (H : Heap) (locs : List Loc) (ls : Array Slot), wpX9_flakesOf_36 post K4 M L v1 v3 s0 s1 → zWd D cy ad A s H locs M L → lv_has ls 4 [(0, .ref (ad 42)), (1, .int v1), (3, .int v3)] → W p l e rmX9_flakesOf s m args below meth c H locs cells slots Q (F0 m 36 ls [.int s0, .int s1]) := by
  have hx := X.1.1; have hb0 := X.1.2.1; have hts := X.1.2.2.2.2
  intro M L v1 v3 s0 s1 H locs ls hw hW hl
  unfold wpX9_flakesOf_36 at hw
  refine lv_ior hx hb0 dX9_flakesOf_36 ?_
  refine lv_topi (fun a_37 e_37 => ?_)
  replace hw := hw a_37 e_37
  refine lv_istore_n (lv' := [(2, .int a_37), (0, .ref (ad 42)), (1, .int v1), (3, .int v3)]) hx hb0 dX9_flakesOf_37 rfl hl (by decide) rfl (fun ls hl => ?_)
  obtain ⟨a_38, e_38⟩ : ∃ y : Int32, y = v3 + (1 : Int32) := ⟨_, rfl⟩
  replace hw := hw a_38 e_38
  refine lv_iinc (v := a_38) (lv' := [(3, .int a_38), (2, .int a_37), (0, .ref (ad 42)), (1, .int v1)]) hx hb0 dX9_flakesOf_38 hl (k := 3) rfl (by rw [e_38]; rfl) (by decide) rfl (fun ls hl => ?_)
  refine lv_goto (tgt := 4) hx hb0 dX9_flakesOf_41 (by decide) ?_
  exact hK4 M L v1 a_37 a_38 _ _ ls hw hW (lv_sub hl [2, 3, 1, 0] rfl)
set_option maxRecDepth 20000 in
set_option maxHeartbeats 4000000 in
theorem mX9_flakesOf_35 {p : Program} {l : Launch} {e : Env} {s : State} {m : MethodId} {args : Array Value} {below : List Frame} {meth : Method} {c : Code} {cells slots : Nat} {Q : State → Prop} {D : va_G} {cy : Nat → ClassId} {ad : Nat → Nat} {A : Nat → Prop} (X : zCx p rmX9_flakesOf s m args c cells slots cX9_flakesOf 4 RX9 D cy ad A) (post : Int32 → Mm → Ml → Prop) (hret : zRi p l e rmX9_flakesOf s m args below meth c cells slots Q cX9_flakesOf D cy ad A .int post) (K4 : Mm → Ml → Int32 → Int32 → Int32 → Prop) (hK4 : ∀ (M : Mm) (L : Ml) (v1 : Int32) (v2 : Int32) (v3 : Int32) (H : Heap) (locs : List Loc) (ls : Array Slot), K4 M L v1 v2 v3 → zWd D cy ad A s H locs M L → lv_has ls 4 [(0, .ref (ad 42)), (1, .int v1), (2, .int v2), (3, .int v3)] → W p l e rmX9_flakesOf s m args below meth c H locs cells slots Q (F0 m 4 ls [])) : ∀ (M : Mm) (L : Ml) (v1 : Int32) (v3 : Int32) (s0 : Int32) (H : Heap) (locs : List Loc) (ls : Array Slot), wpX9_flakesOf_35 post K4 M L v1 v3 s0 → zWd D cy ad A s H locs M L → lv_has ls 4 [(0, .ref (ad 42)), (1, .int v1), (3, .int v3)] → W p l e rmX9_flakesOf s m args below meth c H locs cells slots Q (F0 m 35 ls [.int s0]) := by
  have hx := X.1.1; have hb0 := X.1.2.1; have hts := X.1.2.2.2.2
  intro M L v1 v3 s0 H locs ls hw hW hl
  unfold wpX9_flakesOf_35 at hw
  refine lv_iconst (v := (0 : Int32)) hx hb0 dX9_flakesOf_35 (by decide) ?_
  exact mX9_flakesOf_36 X post hret K4 hK4 M L v1 v3 (0 : Int32) s0 _ _ ls hw hW (lv_sub hl [0, 1, 2] rfl)
set_option maxRecDepth 20000 in
set_option maxHeartbeats 4000000 in
theorem mX9_flakesOf_4 {p : Program} {l : Launch} {e : Env} {s : State} {m : MethodId} {args : Array Value} {below : List Frame} {meth : Method} {c : Code} {cells slots : Nat} {Q : State → Prop} {D : va_G} {cy : Nat → ClassId} {ad : Nat → Nat} {A : Nat → Prop} (X : zCx p rmX9_flakesOf s m args c cells slots cX9_flakesOf 4 RX9 D cy ad A) (post : Int32 → Mm → Ml → Prop) (hret : zRi p l e rmX9_flakesOf s m args below meth c cells slots Q cX9_flakesOf D cy ad A .int post) : ∀ (j9 : Nat) (M : Mm) (L : Ml) (v1 : Int32) (v2 : Int32) (v3 : Int32) (H : Heap) (locs : List Loc) (ls : Array Slot), wlX9_flakesOf_4 post j9 (M, L, v1, v2, v3) → zWd D cy ad A s H locs M L → lv_has ls 4 [(0, .ref (ad 42)), (1, .int v1), (2, .int v2), (3, .int v3)] → W p l e rmX9_flakesOf s m args below meth c H locs cells slots Q (F0 m 4 ls []) := by
  have hx := X.1.1; have hb0 := X.1.2.1; have hts := X.1.2.2.2.2
  intro j9
  induction j9 with
  | zero => intro M L v1 v2 v3 H locs ls hw; exact hw.elim
  | succ j9 ih =>
    obtain ⟨K4, hKe⟩ : ∃ K : Mm → Ml → Int32 → Int32 → Int32 → Prop, K = fun M L v1 v2 v3 => wlX9_flakesOf_4 post j9 (M, L, v1, v2, v3) := ⟨_, rfl⟩
    have hK4 : ∀ (M : Mm) (L : Ml) (v1 : Int32) (v2 : Int32) (v3 : Int32) (H : Heap) (locs : List Loc) (ls : Array Slot), K4 M L v1 v2 v3 → zWd D cy ad A s H locs M L → lv_has ls 4 [(0, .ref (ad 42)), (1, .int v1), (2, .int v2), (3, .int v3)] → W p l e rmX9_flakesOf s m args below meth c H locs cells slots Q (F0 m 4 ls []) := by intro M L v1 v2 v3 H locs ls hw; rw [hKe] at hw; exact ih M L v1 v2 v3 H locs ls hw
    intro M L v1 v2 v3 H locs ls hw hW hl
    have hw : wpX9_flakesOf_4 post K4 M L v1 v2 v3 := by rw [hKe]; exact hw
    clear ih
    unfold wpX9_flakesOf_4 at hw
    refine lv_iload_n hx hb0 dX9_flakesOf_4 rfl (lv_at hl 3 rfl) ?_
    refine lv_bipush (v := (8 : Int32)) hx hb0 dX9_flakesOf_5 (by decide) ?_
    refine lv_icmp_ge (tgt := 44) hx hb0 dX9_flakesOf_7 (by decide) (fun c_7 => ?_) (fun c_7 => ?_)
    · replace hw := hw.1 c_7
      refine lv_iload_n hx hb0 dX9_flakesOf_44 rfl (lv_at hl 2 rfl) ?_
      exact hret _ ls _ _ v2 M L dX9_flakesOf_45 rfl hw hW
    · replace hw := hw.2 c_7
      refine lv_iload_n hx hb0 dX9_flakesOf_10 rfl (lv_at hl 2 rfl) ?_
      refine lv_aload_n hx hb0 dX9_flakesOf_11 rfl (lv_at hl 0 rfl) ?_
      refine lv_iload_n hx hb0 dX9_flakesOf_12 rfl (lv_at hl 3 rfl) ?_
      refine z_Vi X zO_42 zC7 zc_X9_isFlake zs_X9_isFlake zl_X9_113 rfl ⟨rfl, rfl⟩ ⟨Nat.le_of_ble_eq_true rfl, Nat.le_of_ble_eq_true rfl⟩ (kX9_isFlake l D cy ad X.2.2.2.1 v3) hW hw hl.1 rfl rfl (Nat.le_of_ble_eq_true rfl) dX9_flakesOf_13 (fun r_13 M_13 L_13 H_13 locs_13 hw hW => ?_)
      refine lv_if_eq (tgt := 35) hx hb0 dX9_flakesOf_16 (by decide) (fun c_16 => ?_) (fun c_16 => ?_)
      · replace hw := hw.1 c_16
        exact mX9_flakesOf_35 X post hret K4 hK4 M_13 L_13 v1 v3 v2 _ _ ls hw hW (lv_sub hl [0, 1, 3] rfl)
      · replace hw := hw.2 c_16
        refine lv_aload_n hx hb0 dX9_flakesOf_19 rfl (lv_at hl 0 rfl) ?_
        refine z_getR (k2 := 47) X hW zC7 zR_42_5 (by decide) rfl zl_X9_22 dX9_flakesOf_20 ?_
        refine lv_iload_n hx hb0 dX9_flakesOf_23 rfl (lv_at hl 3 rfl) ?_
        obtain ⟨g_24, hw⟩ := hw
        refine z_iald X hW zI_47 g_24 dX9_flakesOf_24 ?_
        refine lv_iload_n hx hb0 dX9_flakesOf_25 rfl (lv_at hl 1 rfl) ?_
        refine lv_icmp_ne (tgt := 35) hx hb0 dX9_flakesOf_26 (by decide) (fun c_26 => ?_) (fun c_26 => ?_)
        · replace hw := hw.1 c_26
          exact mX9_flakesOf_35 X post hret K4 hK4 M_13 L_13 v1 v3 v2 _ _ ls hw hW (lv_sub hl [0, 1, 3] rfl)
        · replace hw := hw.2 c_26
          refine lv_iconst (v := (1 : Int32)) hx hb0 dX9_flakesOf_29 (by decide) ?_
          refine lv_iload_n hx hb0 dX9_flakesOf_30 rfl (lv_at hl 3 rfl) ?_
          refine lv_ishl hx hb0 dX9_flakesOf_31 ?_
          refine lv_goto (tgt := 36) hx hb0 dX9_flakesOf_32 (by decide) ?_
          exact mX9_flakesOf_36 X post hret K4 hK4 M_13 L_13 v1 v3 ((1 : Int32) <<< (v3 &&& 31)) v2 _ _ ls hw hW (lv_sub hl [0, 1, 3] rfl)
set_option maxRecDepth 20000 in
set_option maxHeartbeats 4000000 in
theorem mX9_flakesOf {p : Program} {l : Launch} {e : Env} {s : State} {m : MethodId} {args : Array Value} {below : List Frame} {meth : Method} {c : Code} {cells slots : Nat} {Q : State → Prop} {D : va_G} {cy : Nat → ClassId} {ad : Nat → Nat} {A : Nat → Prop} (X : zCx p rmX9_flakesOf s m args c cells slots cX9_flakesOf 4 RX9 D cy ad A) (post : Int32 → Mm → Ml → Prop) (hret : zRi p l e rmX9_flakesOf s m args below meth c cells slots Q cX9_flakesOf D cy ad A .int post) : ∀ (M : Mm) (L : Ml) (x1 : Int32) (H : Heap) (locs : List Loc) (ls : Array Slot), wpX9_flakesOf x1 M L post → zWd D cy ad A s H locs M L → lv_has ls 4 [(0, .ref (ad 42)), (1, .int x1)] → W p l e rmX9_flakesOf s m args below meth c H locs cells slots Q (F0 m 0 ls []) := by
  have hx := X.1.1; have hb0 := X.1.2.1; have hts := X.1.2.2.2.2
  intro M L x1 H locs ls hw hW hl
  unfold wpX9_flakesOf at hw
  refine lv_iconst (v := (0 : Int32)) hx hb0 dX9_flakesOf_0 (by decide) ?_
  refine lv_istore_n (lv' := [(2, .int (0 : Int32)), (0, .ref (ad 42)), (1, .int x1)]) hx hb0 dX9_flakesOf_1 rfl hl (by decide) rfl (fun ls hl => ?_)
  refine lv_iconst (v := (0 : Int32)) hx hb0 dX9_flakesOf_2 (by decide) ?_
  refine lv_istore_n (lv' := [(3, .int (0 : Int32)), (2, .int (0 : Int32)), (0, .ref (ad 42)), (1, .int x1)]) hx hb0 dX9_flakesOf_3 rfl hl (by decide) rfl (fun ls hl => ?_)
  obtain ⟨n_4, hw⟩ := hw
  exact mX9_flakesOf_4 X post hret n_4 M L x1 (0 : Int32) (0 : Int32) _ _ ls hw hW (lv_sub hl [2, 3, 1, 0] rfl)
theorem kX9_flakesOf (l : Launch) (D : va_G) (cy : Nat → ClassId) (ad : Nat → Nat) (hi : zInj ad) (x1 : Int32) : zMi l yX9_flakesOf (.code yX9_flakesOf cX9_flakesOf 4 (some .int) :: zG) rmX9_flakesOf D cy ad [.ref (ad 42), .int x1] (wpX9_flakesOf x1) :=
  zMi_of (by decide +kernel) (Nat.le_of_ble_eq_true rfl) hi (fun X M L post _ hret ls hl hw hW => mX9_flakesOf X post hret M L x1 _ _ ls hw hW hl)
abbrev rmX9_stands : Room := { frames := 7, cells := 0, slots := 0, locals := 153 }
set_option maxRecDepth 20000 in
set_option maxHeartbeats 4000000 in
theorem mX9_stands_76 {p : Program} {l : Launch} {e : Env} {s : State} {m : MethodId} {args : Array Value} {below : List Frame} {meth : Method} {c : Code} {cells slots : Nat} {Q : State → Prop} {D : va_G} {cy : Nat → ClassId} {ad : Nat → Nat} {A : Nat → Prop} (X : zCx p rmX9_stands s m args c cells slots cX9_stands 5 RX9 D cy ad A) (post : Int32 → Mm → Ml → Prop) (hret : zRi p l e rmX9_stands s m args below meth c cells slots Q cX9_stands D cy ad A .int post) : ∀ (M : Mm) (L : Ml) (s0 : Int32) (H : Heap) (locs : List Loc) (ls : Array Slot), wpX9_stands_76 post M L s0 → zWd D cy ad A s H locs M L → lv_has ls 5 [] → W p l e rmX9_stands s m args below meth c H locs cells slots Q (F0 m 76 ls [.int s0, .ref (ad 42)]) := by
  have hx := X.1.1; have hb0 := X.1.2.1; have hts := X.1.2.2.2.2
  intro M L s0 H locs ls hw hW hl
  unfold wpX9_stands_76 at hw
  refine z_Vi X zO_42 zC7 zc_X9_back zs_X9_back zl_X9_199 rfl ⟨rfl, rfl⟩ ⟨Nat.le_of_ble_eq_true rfl, Nat.le_of_ble_eq_true rfl⟩ (kX9_back l D cy ad X.2.2.2.1 s0) hW hw hl.1 rfl rfl (Nat.le_of_ble_eq_true rfl) dX9_stands_76 (fun r_76 M_76 L_76 H_76 locs_76 hw hW => ?_)
  exact hret _ ls _ _ r_76 M_76 L_76 dX9_stands_79 rfl hw hW
set_option maxRecDepth 20000 in
set_option maxHeartbeats 4000000 in
theorem mX9_stands_61 {p : Program} {l : Launch} {e : Env} {s : State} {m : MethodId} {args : Array Value} {below : List Frame} {meth : Method} {c : Code} {cells slots : Nat} {Q : State → Prop} {D : va_G} {cy : Nat → ClassId} {ad : Nat → Nat} {A : Nat → Prop} (X : zCx p rmX9_stands s m args c cells slots cX9_stands 5 RX9 D cy ad A) (post : Int32 → Mm → Ml → Prop) (hret : zRi p l e rmX9_stands s m args below meth c cells slots Q cX9_stands D cy ad A .int post) : ∀ (M : Mm) (L : Ml) (v3 : Int32) (s0 : Int32) (H : Heap) (locs : List Loc) (ls : Array Slot), wpX9_stands_61 post M L v3 s0 → zWd D cy ad A s H locs M L → lv_has ls 5 [(0, .ref (ad 42)), (3, .int v3)] → W p l e rmX9_stands s m args below meth c H locs cells slots Q (F0 m 61 ls [.int s0]) := by
  have hx := X.1.1; have hb0 := X.1.2.1; have hts := X.1.2.2.2.2
  intro M L v3 s0 H locs ls hw hW hl
  unfold wpX9_stands_61 at hw
  refine lv_istore (lv' := [(4, .int s0), (0, .ref (ad 42)), (3, .int v3)]) hx hb0 dX9_stands_61 hl (by decide) rfl (fun ls hl => ?_)
  refine lv_aload_n hx hb0 dX9_stands_63 rfl (lv_at hl 1 rfl) ?_
  refine lv_iload_n hx hb0 dX9_stands_64 rfl (lv_at hl 2 rfl) ?_
  refine lv_bipush (v := (-6 : Int32)) hx hb0 dX9_stands_65 (by decide) ?_
  refine lv_icmp_eq (tgt := 74) hx hb0 dX9_stands_67 (by decide) (fun c_67 => ?_) (fun c_67 => ?_)
  · replace hw := hw.1 c_67
    refine lv_iload hx hb0 dX9_stands_74 (lv_at hl 0 rfl) ?_
    exact mX9_stands_76 X post hret M L s0 _ _ ls hw hW (lv_sub hl [] rfl)
  · replace hw := hw.2 c_67
    refine lv_iload_n hx hb0 dX9_stands_70 rfl (lv_at hl 2 rfl) ?_
    refine lv_goto (tgt := 76) hx hb0 dX9_stands_71 (by decide) ?_
    exact mX9_stands_76 X post hret M L v3 _ _ ls hw hW (lv_sub hl [] rfl)
set_option maxRecDepth 20000 in
set_option maxHeartbeats 4000000 in
theorem mX9_stands {p : Program} {l : Launch} {e : Env} {s : State} {m : MethodId} {args : Array Value} {below : List Frame} {meth : Method} {c : Code} {cells slots : Nat} {Q : State → Prop} {D : va_G} {cy : Nat → ClassId} {ad : Nat → Nat} {A : Nat → Prop} (X : zCx p rmX9_stands s m args c cells slots cX9_stands 5 RX9 D cy ad A) (post : Int32 → Mm → Ml → Prop) (hret : zRi p l e rmX9_stands s m args below meth c cells slots Q cX9_stands D cy ad A .int post) : ∀ (M : Mm) (L : Ml) (x1 : Int32) (x2 : Int32) (H : Heap) (locs : List Loc) (ls : Array Slot), wpX9_stands x1 x2 M L post → zWd D cy ad A s H locs M L → lv_has ls 5 [(0, .ref (ad 42)), (1, .int x1), (2, .int x2)] → W p l e rmX9_stands s m args below meth c H locs cells slots Q (F0 m 0 ls []) := by
  have hx := X.1.1; have hb0 := X.1.2.1; have hts := X.1.2.2.2.2
  intro M L x1 x2 H locs ls hw hW hl
  unfold wpX9_stands at hw
  refine lv_iload_n hx hb0 dX9_stands_0 rfl (lv_at hl 1 rfl) ?_
  refine z_Si X zc_X9_isOne zt_X9_isOne zl_X9_98 rfl ⟨rfl, rfl⟩ ⟨Nat.le_of_ble_eq_true rfl, Nat.le_of_ble_eq_true rfl⟩ (kX9_isOne l D cy ad X.2.2.2.1 x1) hW hw hl.1 rfl rfl (Nat.le_of_ble_eq_true rfl) dX9_stands_1 (fun r_1 M_1 L_1 H_1 locs_1 hw hW => ?_)
  refine lv_if_ne (tgt := 9) hx hb0 dX9_stands_4 (by decide) (fun c_4 => ?_) (fun c_4 => ?_)
  · replace hw := hw.1 c_4
    refine lv_iload_n hx hb0 dX9_stands_9 rfl (lv_at hl 2 rfl) ?_
    refine lv_i2l hx hb0 dX9_stands_10 rfl ?_
    refine lv_lconst (v := (0 : Int64)) hx hb0 dX9_stands_11 (by decide) ?_
    refine lv_ldc2 (v := (2 : Int64)) hx hb0 X.1.2.2.2.1 (hts _ zk_X9_194) dX9_stands_12 ?_
    refine z_Si X zc_X9_in zt_X9_in zl_X9_86 rfl ⟨rfl, rfl⟩ ⟨Nat.le_of_ble_eq_true rfl, Nat.le_of_ble_eq_true rfl⟩ (kX9_in l D cy ad X.2.2.2.1 (x2.toInt64) (0 : Int64) (2 : Int64)) hW hw hl.1 rfl rfl (Nat.le_of_ble_eq_true rfl) dX9_stands_15 (fun r_15 M_15 L_15 H_15 locs_15 hw hW => ?_)
    refine lv_if_ne (tgt := 24) hx hb0 dX9_stands_18 (by decide) (fun c_18 => ?_) (fun c_18 => ?_)
    · replace hw := hw.1 c_18
      refine lv_aload_n hx hb0 dX9_stands_24 rfl (lv_at hl 0 rfl) ?_
      refine z_Vi X zO_42 zC7 zc_X9_refusal zs_X9_refusal zl_X9_196 rfl ⟨rfl, rfl⟩ ⟨Nat.le_of_ble_eq_true rfl, Nat.le_of_ble_eq_true rfl⟩ (kX9_refusal l D cy ad X.2.2.2.1) hW hw hl.1 rfl rfl (Nat.le_of_ble_eq_true rfl) dX9_stands_25 (fun r_25 M_25 L_25 H_25 locs_25 hw hW => ?_)
      refine lv_istore_n (lv' := [(3, .int r_25), (0, .ref (ad 42)), (1, .int x1), (2, .int x2)]) hx hb0 dX9_stands_28 rfl hl (by decide) rfl (fun ls hl => ?_)
      refine lv_iload_n hx hb0 dX9_stands_29 rfl (lv_at hl 3 rfl) ?_
      refine lv_if_ne (tgt := 42) hx hb0 dX9_stands_30 (by decide) (fun c_30 => ?_) (fun c_30 => ?_)
      · replace hw := hw.1 c_30
        refine lv_iload_n hx hb0 dX9_stands_42 rfl (lv_at hl 3 rfl) ?_
        refine lv_iconst (v := (1 : Int32)) hx hb0 dX9_stands_43 (by decide) ?_
        refine lv_icmp_ne (tgt := 56) hx hb0 dX9_stands_44 (by decide) (fun c_44 => ?_) (fun c_44 => ?_)
        · replace hw := hw.1 c_44
          refine lv_aload_n hx hb0 dX9_stands_56 rfl (lv_at hl 1 rfl) ?_
          refine lv_iload_n hx hb0 dX9_stands_57 rfl (lv_at hl 2 rfl) ?_
          refine z_Vi X zO_42 zC7 zc_X9_flakesOf zs_X9_flakesOf zl_X9_207 rfl ⟨rfl, rfl⟩ ⟨Nat.le_of_ble_eq_true rfl, Nat.le_of_ble_eq_true rfl⟩ (kX9_flakesOf l D cy ad X.2.2.2.1 x1) hW hw hl.1 rfl rfl (Nat.le_of_ble_eq_true rfl) dX9_stands_58 (fun r_58 M_58 L_58 H_58 locs_58 hw hW => ?_)
          exact mX9_stands_61 X post hret M_58 L_58 r_25 r_58 _ _ ls hw hW (lv_sub hl [1, 0] rfl)
        · replace hw := hw.2 c_44
          refine lv_aload_n hx hb0 dX9_stands_47 rfl (lv_at hl 1 rfl) ?_
          refine z_getR (k2 := 49) X hW zC7 zR_42_7 (by decide) rfl zl_X9_28 dX9_stands_48 ?_
          refine lv_iload_n hx hb0 dX9_stands_51 rfl (lv_at hl 2 rfl) ?_
          obtain ⟨g_52, hw⟩ := hw
          refine z_iald X hW zI_49 g_52 dX9_stands_52 ?_
          refine lv_goto (tgt := 61) hx hb0 dX9_stands_53 (by decide) ?_
          exact mX9_stands_61 X post hret M_25 L_25 r_25 (M_25 49 x1.toNatClampNeg) _ _ ls hw hW (lv_sub hl [1, 0] rfl)
      · replace hw := hw.2 c_30
        refine lv_aload_n hx hb0 dX9_stands_33 rfl (lv_at hl 1 rfl) ?_
        refine z_getR (k2 := 48) X hW zC7 zR_42_6 (by decide) rfl zl_X9_25 dX9_stands_34 ?_
        refine lv_iload_n hx hb0 dX9_stands_37 rfl (lv_at hl 2 rfl) ?_
        obtain ⟨g_38, hw⟩ := hw
        refine z_iald X hW zI_48 g_38 dX9_stands_38 ?_
        refine lv_goto (tgt := 61) hx hb0 dX9_stands_39 (by decide) ?_
        exact mX9_stands_61 X post hret M_25 L_25 r_25 (M_25 48 x1.toNatClampNeg) _ _ ls hw hW (lv_sub hl [1, 0] rfl)
    · replace hw := hw.2 c_18
      refine lv_bipush (v := (-2 : Int32)) hx hb0 dX9_stands_21 (by decide) ?_
      exact hret _ ls _ _ (-2 : Int32) M_15 L_15 dX9_stands_23 rfl hw hW
  · replace hw := hw.2 c_4
    refine lv_iconst (v := (-1 : Int32)) hx hb0 dX9_stands_7 (by decide) ?_
    exact hret _ ls _ _ (-1 : Int32) M_1 L_1 dX9_stands_8 rfl hw hW
theorem kX9_stands (l : Launch) (D : va_G) (cy : Nat → ClassId) (ad : Nat → Nat) (hi : zInj ad) (x1 : Int32) (x2 : Int32) : zMi l yX9_stands (.code yX9_stands cX9_stands 5 (some .int) :: zG) rmX9_stands D cy ad [.ref (ad 42), .int x1, .int x2] (wpX9_stands x1 x2) :=
  zMi_of (by decide +kernel) (Nat.le_of_ble_eq_true rfl) hi (fun X M L post _ hret ls hl hw hW => mX9_stands X post hret M L x1 x2 _ _ ls hw hW hl)
abbrev rmX9_postedNow : Room := { frames := 2, cells := 0, slots := 0, locals := 46 }
set_option maxRecDepth 20000 in
set_option maxHeartbeats 4000000 in
theorem mX9_postedNow_41 {p : Program} {l : Launch} {e : Env} {s : State} {m : MethodId} {args : Array Value} {below : List Frame} {meth : Method} {c : Code} {cells slots : Nat} {Q : State → Prop} {D : va_G} {cy : Nat → ClassId} {ad : Nat → Nat} {A : Nat → Prop} (X : zCx p rmX9_postedNow s m args c cells slots cX9_postedNow 3 RX9 D cy ad A) (post : Int32 → Mm → Ml → Prop) (hret : zRi p l e rmX9_postedNow s m args below meth c cells slots Q cX9_postedNow D cy ad A .int post) (K4 : Mm → Ml → Int32 → Int32 → Prop) (hK4 : ∀ (M : Mm) (L : Ml) (v1 : Int32) (v2 : Int32) (H : Heap) (locs : List Loc) (ls : Array Slot), K4 M L v1 v2 → zWd D cy ad A s H locs M L → lv_has ls 3 [(0, .ref (ad 42)), (1, .int v1), (2, .int v2)] → W p l e rmX9_postedNow s m args below meth c H locs cells slots Q (F0 m 4 ls [])) : ∀ (M : Mm) (L : Ml) (v2 : Int32) (s0 : Int32) (s1 : Int32) (H : Heap) (locs : List Loc) (ls : Array Slot), wpX9_postedNow_41 post K4 M L v2 s0 s1 → zWd D cy ad A s H locs M L → lv_has ls 3 [(0, .ref (ad 42)), (2, .int v2)] → W p l e rmX9_postedNow s m args below meth c H locs cells slots Q (F0 m 41 ls [.int s0, .int s1]) := by
  have hx := X.1.1; have hb0 := X.1.2.1; have hts := X.1.2.2.2.2
  intro M L v2 s0 s1 H locs ls hw hW hl
  unfold wpX9_postedNow_41 at hw
  refine lv_ior hx hb0 dX9_postedNow_41 ?_
  refine lv_topi (fun a_42 e_42 => ?_)
  replace hw := hw a_42 e_42
  refine lv_istore_n (lv' := [(1, .int a_42), (0, .ref (ad 42)), (2, .int v2)]) hx hb0 dX9_postedNow_42 rfl hl (by decide) rfl (fun ls hl => ?_)
  obtain ⟨a_43, e_43⟩ : ∃ y : Int32, y = v2 + (1 : Int32) := ⟨_, rfl⟩
  replace hw := hw a_43 e_43
  refine lv_iinc (v := a_43) (lv' := [(2, .int a_43), (1, .int a_42), (0, .ref (ad 42))]) hx hb0 dX9_postedNow_43 hl (k := 2) rfl (by rw [e_43]; rfl) (by decide) rfl (fun ls hl => ?_)
  refine lv_goto (tgt := 4) hx hb0 dX9_postedNow_46 (by decide) ?_
  exact hK4 M L a_42 a_43 _ _ ls hw hW (lv_sub hl [2, 1, 0] rfl)
set_option maxRecDepth 20000 in
set_option maxHeartbeats 4000000 in
theorem mX9_postedNow_40 {p : Program} {l : Launch} {e : Env} {s : State} {m : MethodId} {args : Array Value} {below : List Frame} {meth : Method} {c : Code} {cells slots : Nat} {Q : State → Prop} {D : va_G} {cy : Nat → ClassId} {ad : Nat → Nat} {A : Nat → Prop} (X : zCx p rmX9_postedNow s m args c cells slots cX9_postedNow 3 RX9 D cy ad A) (post : Int32 → Mm → Ml → Prop) (hret : zRi p l e rmX9_postedNow s m args below meth c cells slots Q cX9_postedNow D cy ad A .int post) (K4 : Mm → Ml → Int32 → Int32 → Prop) (hK4 : ∀ (M : Mm) (L : Ml) (v1 : Int32) (v2 : Int32) (H : Heap) (locs : List Loc) (ls : Array Slot), K4 M L v1 v2 → zWd D cy ad A s H locs M L → lv_has ls 3 [(0, .ref (ad 42)), (1, .int v1), (2, .int v2)] → W p l e rmX9_postedNow s m args below meth c H locs cells slots Q (F0 m 4 ls [])) : ∀ (M : Mm) (L : Ml) (v2 : Int32) (s0 : Int32) (H : Heap) (locs : List Loc) (ls : Array Slot), wpX9_postedNow_40 post K4 M L v2 s0 → zWd D cy ad A s H locs M L → lv_has ls 3 [(0, .ref (ad 42)), (2, .int v2)] → W p l e rmX9_postedNow s m args below meth c H locs cells slots Q (F0 m 40 ls [.int s0]) := by
  have hx := X.1.1; have hb0 := X.1.2.1; have hts := X.1.2.2.2.2
  intro M L v2 s0 H locs ls hw hW hl
  unfold wpX9_postedNow_40 at hw
  refine lv_iconst (v := (0 : Int32)) hx hb0 dX9_postedNow_40 (by decide) ?_
  exact mX9_postedNow_41 X post hret K4 hK4 M L v2 (0 : Int32) s0 _ _ ls hw hW (lv_sub hl [0, 1] rfl)
set_option maxRecDepth 20000 in
set_option maxHeartbeats 4000000 in
theorem mX9_postedNow_4 {p : Program} {l : Launch} {e : Env} {s : State} {m : MethodId} {args : Array Value} {below : List Frame} {meth : Method} {c : Code} {cells slots : Nat} {Q : State → Prop} {D : va_G} {cy : Nat → ClassId} {ad : Nat → Nat} {A : Nat → Prop} (X : zCx p rmX9_postedNow s m args c cells slots cX9_postedNow 3 RX9 D cy ad A) (post : Int32 → Mm → Ml → Prop) (hret : zRi p l e rmX9_postedNow s m args below meth c cells slots Q cX9_postedNow D cy ad A .int post) : ∀ (j9 : Nat) (M : Mm) (L : Ml) (v1 : Int32) (v2 : Int32) (H : Heap) (locs : List Loc) (ls : Array Slot), wlX9_postedNow_4 post j9 (M, L, v1, v2) → zWd D cy ad A s H locs M L → lv_has ls 3 [(0, .ref (ad 42)), (1, .int v1), (2, .int v2)] → W p l e rmX9_postedNow s m args below meth c H locs cells slots Q (F0 m 4 ls []) := by
  have hx := X.1.1; have hb0 := X.1.2.1; have hts := X.1.2.2.2.2
  intro j9
  induction j9 with
  | zero => intro M L v1 v2 H locs ls hw; exact hw.elim
  | succ j9 ih =>
    obtain ⟨K4, hKe⟩ : ∃ K : Mm → Ml → Int32 → Int32 → Prop, K = fun M L v1 v2 => wlX9_postedNow_4 post j9 (M, L, v1, v2) := ⟨_, rfl⟩
    have hK4 : ∀ (M : Mm) (L : Ml) (v1 : Int32) (v2 : Int32) (H : Heap) (locs : List Loc) (ls : Array Slot), K4 M L v1 v2 → zWd D cy ad A s H locs M L → lv_has ls 3 [(0, .ref (ad 42)), (1, .int v1), (2, .int v2)] → W p l e rmX9_postedNow s m args below meth c H locs cells slots Q (F0 m 4 ls []) := by intro M L v1 v2 H locs ls hw; rw [hKe] at hw; exact ih M L v1 v2 H locs ls hw
    intro M L v1 v2 H locs ls hw hW hl
    have hw : wpX9_postedNow_4 post K4 M L v1 v2 := by rw [hKe]; exact hw
    clear ih
    unfold wpX9_postedNow_4 at hw
    refine lv_iload_n hx hb0 dX9_postedNow_4 rfl (lv_at hl 2 rfl) ?_
    refine lv_bipush (v := (8 : Int32)) hx hb0 dX9_postedNow_5 (by decide) ?_
    refine lv_icmp_ge (tgt := 49) hx hb0 dX9_postedNow_7 (by decide) (fun c_7 => ?_) (fun c_7 => ?_)
    · replace hw := hw.1 c_7
      refine lv_iload_n hx hb0 dX9_postedNow_49 rfl (lv_at hl 1 rfl) ?_
      exact hret _ ls _ _ v1 M L dX9_postedNow_50 rfl hw hW
    · replace hw := hw.2 c_7
      refine lv_iload_n hx hb0 dX9_postedNow_10 rfl (lv_at hl 1 rfl) ?_
      refine lv_aload_n hx hb0 dX9_postedNow_11 rfl (lv_at hl 0 rfl) ?_
      refine lv_iload_n hx hb0 dX9_postedNow_12 rfl (lv_at hl 2 rfl) ?_
      refine z_Vi X zO_42 zC7 zc_X9_isFlake zs_X9_isFlake zl_X9_113 rfl ⟨rfl, rfl⟩ ⟨Nat.le_of_ble_eq_true rfl, Nat.le_of_ble_eq_true rfl⟩ (kX9_isFlake l D cy ad X.2.2.2.1 v2) hW hw hl.1 rfl rfl (Nat.le_of_ble_eq_true rfl) dX9_postedNow_13 (fun r_13 M_13 L_13 H_13 locs_13 hw hW => ?_)
      refine lv_if_eq (tgt := 40) hx hb0 dX9_postedNow_16 (by decide) (fun c_16 => ?_) (fun c_16 => ?_)
      · replace hw := hw.1 c_16
        exact mX9_postedNow_40 X post hret K4 hK4 M_13 L_13 v2 v1 _ _ ls hw hW (lv_sub hl [0, 2] rfl)
      · replace hw := hw.2 c_16
        refine lv_aload_n hx hb0 dX9_postedNow_19 rfl (lv_at hl 0 rfl) ?_
        refine z_getR (k2 := 47) X hW zC7 zR_42_5 (by decide) rfl zl_X9_22 dX9_postedNow_20 ?_
        refine lv_iload_n hx hb0 dX9_postedNow_23 rfl (lv_at hl 2 rfl) ?_
        obtain ⟨g_24, hw⟩ := hw
        refine z_iald X hW zI_47 g_24 dX9_postedNow_24 ?_
        refine lv_aload_n hx hb0 dX9_postedNow_25 rfl (lv_at hl 0 rfl) ?_
        refine z_getR (k2 := 46) X hW zC7 zR_42_4 (by decide) rfl zl_X9_19 dX9_postedNow_26 ?_
        refine lv_iload_n hx hb0 dX9_postedNow_29 rfl (lv_at hl 2 rfl) ?_
        obtain ⟨g_30, hw⟩ := hw
        refine z_iald X hW zI_46 g_30 dX9_postedNow_30 ?_
        refine lv_icmp_ne (tgt := 40) hx hb0 dX9_postedNow_31 (by decide) (fun c_31 => ?_) (fun c_31 => ?_)
        · replace hw := hw.1 c_31
          exact mX9_postedNow_40 X post hret K4 hK4 M_13 L_13 v2 v1 _ _ ls hw hW (lv_sub hl [0, 2] rfl)
        · replace hw := hw.2 c_31
          refine lv_iconst (v := (1 : Int32)) hx hb0 dX9_postedNow_34 (by decide) ?_
          refine lv_iload_n hx hb0 dX9_postedNow_35 rfl (lv_at hl 2 rfl) ?_
          refine lv_ishl hx hb0 dX9_postedNow_36 ?_
          refine lv_goto (tgt := 41) hx hb0 dX9_postedNow_37 (by decide) ?_
          exact mX9_postedNow_41 X post hret K4 hK4 M_13 L_13 v2 ((1 : Int32) <<< (v2 &&& 31)) v1 _ _ ls hw hW (lv_sub hl [0, 2] rfl)
set_option maxRecDepth 20000 in
set_option maxHeartbeats 4000000 in
theorem mX9_postedNow {p : Program} {l : Launch} {e : Env} {s : State} {m : MethodId} {args : Array Value} {below : List Frame} {meth : Method} {c : Code} {cells slots : Nat} {Q : State → Prop} {D : va_G} {cy : Nat → ClassId} {ad : Nat → Nat} {A : Nat → Prop} (X : zCx p rmX9_postedNow s m args c cells slots cX9_postedNow 3 RX9 D cy ad A) (post : Int32 → Mm → Ml → Prop) (hret : zRi p l e rmX9_postedNow s m args below meth c cells slots Q cX9_postedNow D cy ad A .int post) : ∀ (M : Mm) (L : Ml) (H : Heap) (locs : List Loc) (ls : Array Slot), wpX9_postedNow M L post → zWd D cy ad A s H locs M L → lv_has ls 3 [(0, .ref (ad 42))] → W p l e rmX9_postedNow s m args below meth c H locs cells slots Q (F0 m 0 ls []) := by
  have hx := X.1.1; have hb0 := X.1.2.1; have hts := X.1.2.2.2.2
  intro M L H locs ls hw hW hl
  unfold wpX9_postedNow at hw
  refine lv_iconst (v := (0 : Int32)) hx hb0 dX9_postedNow_0 (by decide) ?_
  refine lv_istore_n (lv' := [(1, .int (0 : Int32)), (0, .ref (ad 42))]) hx hb0 dX9_postedNow_1 rfl hl (by decide) rfl (fun ls hl => ?_)
  refine lv_iconst (v := (0 : Int32)) hx hb0 dX9_postedNow_2 (by decide) ?_
  refine lv_istore_n (lv' := [(2, .int (0 : Int32)), (1, .int (0 : Int32)), (0, .ref (ad 42))]) hx hb0 dX9_postedNow_3 rfl hl (by decide) rfl (fun ls hl => ?_)
  obtain ⟨n_4, hw⟩ := hw
  exact mX9_postedNow_4 X post hret n_4 M L (0 : Int32) (0 : Int32) _ _ ls hw hW (lv_sub hl [2, 1, 0] rfl)
theorem kX9_postedNow (l : Launch) (D : va_G) (cy : Nat → ClassId) (ad : Nat → Nat) (hi : zInj ad) : zMi l yX9_postedNow (.code yX9_postedNow cX9_postedNow 3 (some .int) :: zG) rmX9_postedNow D cy ad [.ref (ad 42)] (wpX9_postedNow) :=
  zMi_of (by decide +kernel) (Nat.le_of_ble_eq_true rfl) hi (fun X M L post _ hret ls hl hw hW => mX9_postedNow X post hret M L _ _ ls hw hW hl)
abbrev rmX9_riverNow : Room := { frames := 2, cells := 0, slots := 0, locals := 46 }
set_option maxRecDepth 20000 in
set_option maxHeartbeats 4000000 in
theorem mX9_riverNow_35 {p : Program} {l : Launch} {e : Env} {s : State} {m : MethodId} {args : Array Value} {below : List Frame} {meth : Method} {c : Code} {cells slots : Nat} {Q : State → Prop} {D : va_G} {cy : Nat → ClassId} {ad : Nat → Nat} {A : Nat → Prop} (X : zCx p rmX9_riverNow s m args c cells slots cX9_riverNow 3 RX9 D cy ad A) (post : Int32 → Mm → Ml → Prop) (hret : zRi p l e rmX9_riverNow s m args below meth c cells slots Q cX9_riverNow D cy ad A .int post) (K4 : Mm → Ml → Int32 → Int32 → Prop) (hK4 : ∀ (M : Mm) (L : Ml) (v1 : Int32) (v2 : Int32) (H : Heap) (locs : List Loc) (ls : Array Slot), K4 M L v1 v2 → zWd D cy ad A s H locs M L → lv_has ls 3 [(0, .ref (ad 42)), (1, .int v1), (2, .int v2)] → W p l e rmX9_riverNow s m args below meth c H locs cells slots Q (F0 m 4 ls [])) : ∀ (M : Mm) (L : Ml) (v2 : Int32) (s0 : Int32) (s1 : Int32) (H : Heap) (locs : List Loc) (ls : Array Slot), wpX9_riverNow_35 post K4 M L v2 s0 s1 → zWd D cy ad A s H locs M L → lv_has ls 3 [(0, .ref (ad 42)), (2, .int v2)] → W p l e rmX9_riverNow s m args below meth c H locs cells slots Q (F0 m 35 ls [.int s0, .int s1]) := by
  have hx := X.1.1; have hb0 := X.1.2.1; have hts := X.1.2.2.2.2
  intro M L v2 s0 s1 H locs ls hw hW hl
  unfold wpX9_riverNow_35 at hw
  refine lv_ior hx hb0 dX9_riverNow_35 ?_
  refine lv_topi (fun a_36 e_36 => ?_)
  replace hw := hw a_36 e_36
  refine lv_istore_n (lv' := [(1, .int a_36), (0, .ref (ad 42)), (2, .int v2)]) hx hb0 dX9_riverNow_36 rfl hl (by decide) rfl (fun ls hl => ?_)
  obtain ⟨a_37, e_37⟩ : ∃ y : Int32, y = v2 + (1 : Int32) := ⟨_, rfl⟩
  replace hw := hw a_37 e_37
  refine lv_iinc (v := a_37) (lv' := [(2, .int a_37), (1, .int a_36), (0, .ref (ad 42))]) hx hb0 dX9_riverNow_37 hl (k := 2) rfl (by rw [e_37]; rfl) (by decide) rfl (fun ls hl => ?_)
  refine lv_goto (tgt := 4) hx hb0 dX9_riverNow_40 (by decide) ?_
  exact hK4 M L a_36 a_37 _ _ ls hw hW (lv_sub hl [2, 1, 0] rfl)
set_option maxRecDepth 20000 in
set_option maxHeartbeats 4000000 in
theorem mX9_riverNow_34 {p : Program} {l : Launch} {e : Env} {s : State} {m : MethodId} {args : Array Value} {below : List Frame} {meth : Method} {c : Code} {cells slots : Nat} {Q : State → Prop} {D : va_G} {cy : Nat → ClassId} {ad : Nat → Nat} {A : Nat → Prop} (X : zCx p rmX9_riverNow s m args c cells slots cX9_riverNow 3 RX9 D cy ad A) (post : Int32 → Mm → Ml → Prop) (hret : zRi p l e rmX9_riverNow s m args below meth c cells slots Q cX9_riverNow D cy ad A .int post) (K4 : Mm → Ml → Int32 → Int32 → Prop) (hK4 : ∀ (M : Mm) (L : Ml) (v1 : Int32) (v2 : Int32) (H : Heap) (locs : List Loc) (ls : Array Slot), K4 M L v1 v2 → zWd D cy ad A s H locs M L → lv_has ls 3 [(0, .ref (ad 42)), (1, .int v1), (2, .int v2)] → W p l e rmX9_riverNow s m args below meth c H locs cells slots Q (F0 m 4 ls [])) : ∀ (M : Mm) (L : Ml) (v2 : Int32) (s0 : Int32) (H : Heap) (locs : List Loc) (ls : Array Slot), wpX9_riverNow_34 post K4 M L v2 s0 → zWd D cy ad A s H locs M L → lv_has ls 3 [(0, .ref (ad 42)), (2, .int v2)] → W p l e rmX9_riverNow s m args below meth c H locs cells slots Q (F0 m 34 ls [.int s0]) := by
  have hx := X.1.1; have hb0 := X.1.2.1; have hts := X.1.2.2.2.2
  intro M L v2 s0 H locs ls hw hW hl
  unfold wpX9_riverNow_34 at hw
  refine lv_iconst (v := (0 : Int32)) hx hb0 dX9_riverNow_34 (by decide) ?_
  exact mX9_riverNow_35 X post hret K4 hK4 M L v2 (0 : Int32) s0 _ _ ls hw hW (lv_sub hl [0, 1] rfl)
set_option maxRecDepth 20000 in
set_option maxHeartbeats 4000000 in
theorem mX9_riverNow_4 {p : Program} {l : Launch} {e : Env} {s : State} {m : MethodId} {args : Array Value} {below : List Frame} {meth : Method} {c : Code} {cells slots : Nat} {Q : State → Prop} {D : va_G} {cy : Nat → ClassId} {ad : Nat → Nat} {A : Nat → Prop} (X : zCx p rmX9_riverNow s m args c cells slots cX9_riverNow 3 RX9 D cy ad A) (post : Int32 → Mm → Ml → Prop) (hret : zRi p l e rmX9_riverNow s m args below meth c cells slots Q cX9_riverNow D cy ad A .int post) : ∀ (j9 : Nat) (M : Mm) (L : Ml) (v1 : Int32) (v2 : Int32) (H : Heap) (locs : List Loc) (ls : Array Slot), wlX9_riverNow_4 post j9 (M, L, v1, v2) → zWd D cy ad A s H locs M L → lv_has ls 3 [(0, .ref (ad 42)), (1, .int v1), (2, .int v2)] → W p l e rmX9_riverNow s m args below meth c H locs cells slots Q (F0 m 4 ls []) := by
  have hx := X.1.1; have hb0 := X.1.2.1; have hts := X.1.2.2.2.2
  intro j9
  induction j9 with
  | zero => intro M L v1 v2 H locs ls hw; exact hw.elim
  | succ j9 ih =>
    obtain ⟨K4, hKe⟩ : ∃ K : Mm → Ml → Int32 → Int32 → Prop, K = fun M L v1 v2 => wlX9_riverNow_4 post j9 (M, L, v1, v2) := ⟨_, rfl⟩
    have hK4 : ∀ (M : Mm) (L : Ml) (v1 : Int32) (v2 : Int32) (H : Heap) (locs : List Loc) (ls : Array Slot), K4 M L v1 v2 → zWd D cy ad A s H locs M L → lv_has ls 3 [(0, .ref (ad 42)), (1, .int v1), (2, .int v2)] → W p l e rmX9_riverNow s m args below meth c H locs cells slots Q (F0 m 4 ls []) := by intro M L v1 v2 H locs ls hw; rw [hKe] at hw; exact ih M L v1 v2 H locs ls hw
    intro M L v1 v2 H locs ls hw hW hl
    have hw : wpX9_riverNow_4 post K4 M L v1 v2 := by rw [hKe]; exact hw
    clear ih
    unfold wpX9_riverNow_4 at hw
    refine lv_iload_n hx hb0 dX9_riverNow_4 rfl (lv_at hl 2 rfl) ?_
    refine lv_bipush (v := (8 : Int32)) hx hb0 dX9_riverNow_5 (by decide) ?_
    refine lv_icmp_ge (tgt := 43) hx hb0 dX9_riverNow_7 (by decide) (fun c_7 => ?_) (fun c_7 => ?_)
    · replace hw := hw.1 c_7
      refine lv_iload_n hx hb0 dX9_riverNow_43 rfl (lv_at hl 1 rfl) ?_
      exact hret _ ls _ _ v1 M L dX9_riverNow_44 rfl hw hW
    · replace hw := hw.2 c_7
      refine lv_iload_n hx hb0 dX9_riverNow_10 rfl (lv_at hl 1 rfl) ?_
      refine lv_aload_n hx hb0 dX9_riverNow_11 rfl (lv_at hl 0 rfl) ?_
      refine lv_iload_n hx hb0 dX9_riverNow_12 rfl (lv_at hl 2 rfl) ?_
      refine z_Vi X zO_42 zC7 zc_X9_isFlake zs_X9_isFlake zl_X9_113 rfl ⟨rfl, rfl⟩ ⟨Nat.le_of_ble_eq_true rfl, Nat.le_of_ble_eq_true rfl⟩ (kX9_isFlake l D cy ad X.2.2.2.1 v2) hW hw hl.1 rfl rfl (Nat.le_of_ble_eq_true rfl) dX9_riverNow_13 (fun r_13 M_13 L_13 H_13 locs_13 hw hW => ?_)
      refine lv_if_eq (tgt := 34) hx hb0 dX9_riverNow_16 (by decide) (fun c_16 => ?_) (fun c_16 => ?_)
      · replace hw := hw.1 c_16
        exact mX9_riverNow_34 X post hret K4 hK4 M_13 L_13 v2 v1 _ _ ls hw hW (lv_sub hl [0, 2] rfl)
      · replace hw := hw.2 c_16
        refine lv_aload_n hx hb0 dX9_riverNow_19 rfl (lv_at hl 0 rfl) ?_
        refine z_getR (k2 := 44) X hW zC7 zR_42_2 (by decide) rfl zl_X9_13 dX9_riverNow_20 ?_
        refine lv_iload_n hx hb0 dX9_riverNow_23 rfl (lv_at hl 2 rfl) ?_
        obtain ⟨g_24, hw⟩ := hw
        refine z_iald X hW zI_44 g_24 dX9_riverNow_24 ?_
        refine lv_if_ge (tgt := 34) hx hb0 dX9_riverNow_25 (by decide) (fun c_25 => ?_) (fun c_25 => ?_)
        · replace hw := hw.1 c_25
          exact mX9_riverNow_34 X post hret K4 hK4 M_13 L_13 v2 v1 _ _ ls hw hW (lv_sub hl [0, 2] rfl)
        · replace hw := hw.2 c_25
          refine lv_iconst (v := (1 : Int32)) hx hb0 dX9_riverNow_28 (by decide) ?_
          refine lv_iload_n hx hb0 dX9_riverNow_29 rfl (lv_at hl 2 rfl) ?_
          refine lv_ishl hx hb0 dX9_riverNow_30 ?_
          refine lv_goto (tgt := 35) hx hb0 dX9_riverNow_31 (by decide) ?_
          exact mX9_riverNow_35 X post hret K4 hK4 M_13 L_13 v2 ((1 : Int32) <<< (v2 &&& 31)) v1 _ _ ls hw hW (lv_sub hl [0, 2] rfl)
set_option maxRecDepth 20000 in
set_option maxHeartbeats 4000000 in
theorem mX9_riverNow {p : Program} {l : Launch} {e : Env} {s : State} {m : MethodId} {args : Array Value} {below : List Frame} {meth : Method} {c : Code} {cells slots : Nat} {Q : State → Prop} {D : va_G} {cy : Nat → ClassId} {ad : Nat → Nat} {A : Nat → Prop} (X : zCx p rmX9_riverNow s m args c cells slots cX9_riverNow 3 RX9 D cy ad A) (post : Int32 → Mm → Ml → Prop) (hret : zRi p l e rmX9_riverNow s m args below meth c cells slots Q cX9_riverNow D cy ad A .int post) : ∀ (M : Mm) (L : Ml) (H : Heap) (locs : List Loc) (ls : Array Slot), wpX9_riverNow M L post → zWd D cy ad A s H locs M L → lv_has ls 3 [(0, .ref (ad 42))] → W p l e rmX9_riverNow s m args below meth c H locs cells slots Q (F0 m 0 ls []) := by
  have hx := X.1.1; have hb0 := X.1.2.1; have hts := X.1.2.2.2.2
  intro M L H locs ls hw hW hl
  unfold wpX9_riverNow at hw
  refine lv_iconst (v := (0 : Int32)) hx hb0 dX9_riverNow_0 (by decide) ?_
  refine lv_istore_n (lv' := [(1, .int (0 : Int32)), (0, .ref (ad 42))]) hx hb0 dX9_riverNow_1 rfl hl (by decide) rfl (fun ls hl => ?_)
  refine lv_iconst (v := (0 : Int32)) hx hb0 dX9_riverNow_2 (by decide) ?_
  refine lv_istore_n (lv' := [(2, .int (0 : Int32)), (1, .int (0 : Int32)), (0, .ref (ad 42))]) hx hb0 dX9_riverNow_3 rfl hl (by decide) rfl (fun ls hl => ?_)
  obtain ⟨n_4, hw⟩ := hw
  exact mX9_riverNow_4 X post hret n_4 M L (0 : Int32) (0 : Int32) _ _ ls hw hW (lv_sub hl [2, 1, 0] rfl)
theorem kX9_riverNow (l : Launch) (D : va_G) (cy : Nat → ClassId) (ad : Nat → Nat) (hi : zInj ad) : zMi l yX9_riverNow (.code yX9_riverNow cX9_riverNow 3 (some .int) :: zG) rmX9_riverNow D cy ad [.ref (ad 42)] (wpX9_riverNow) :=
  zMi_of (by decide +kernel) (Nat.le_of_ble_eq_true rfl) hi (fun X M L post _ hret ls hl hw hW => mX9_riverNow X post hret M L _ _ ls hw hW hl)
abbrev rmX9_posted : Room := { frames := 7, cells := 0, slots := 0, locals := 153 }
set_option maxRecDepth 20000 in
set_option maxHeartbeats 4000000 in
theorem mX9_posted_63 {p : Program} {l : Launch} {e : Env} {s : State} {m : MethodId} {args : Array Value} {below : List Frame} {meth : Method} {c : Code} {cells slots : Nat} {Q : State → Prop} {D : va_G} {cy : Nat → ClassId} {ad : Nat → Nat} {A : Nat → Prop} (X : zCx p rmX9_posted s m args c cells slots cX9_posted 4 RX9 D cy ad A) (post : Int32 → Mm → Ml → Prop) (hret : zRi p l e rmX9_posted s m args below meth c cells slots Q cX9_posted D cy ad A .int post) : ∀ (M : Mm) (L : Ml) (s0 : Int32) (H : Heap) (locs : List Loc) (ls : Array Slot), wpX9_posted_63 post M L s0 → zWd D cy ad A s H locs M L → lv_has ls 4 [] → W p l e rmX9_posted s m args below meth c H locs cells slots Q (F0 m 63 ls [.int s0, .ref (ad 42)]) := by
  have hx := X.1.1; have hb0 := X.1.2.1; have hts := X.1.2.2.2.2
  intro M L s0 H locs ls hw hW hl
  unfold wpX9_posted_63 at hw
  refine z_Vi X zO_42 zC7 zc_X9_back zs_X9_back zl_X9_199 rfl ⟨rfl, rfl⟩ ⟨Nat.le_of_ble_eq_true rfl, Nat.le_of_ble_eq_true rfl⟩ (kX9_back l D cy ad X.2.2.2.1 s0) hW hw hl.1 rfl rfl (Nat.le_of_ble_eq_true rfl) dX9_posted_63 (fun r_63 M_63 L_63 H_63 locs_63 hw hW => ?_)
  exact hret _ ls _ _ r_63 M_63 L_63 dX9_posted_66 rfl hw hW
set_option maxRecDepth 20000 in
set_option maxHeartbeats 4000000 in
theorem mX9_posted_50 {p : Program} {l : Launch} {e : Env} {s : State} {m : MethodId} {args : Array Value} {below : List Frame} {meth : Method} {c : Code} {cells slots : Nat} {Q : State → Prop} {D : va_G} {cy : Nat → ClassId} {ad : Nat → Nat} {A : Nat → Prop} (X : zCx p rmX9_posted s m args c cells slots cX9_posted 4 RX9 D cy ad A) (post : Int32 → Mm → Ml → Prop) (hret : zRi p l e rmX9_posted s m args below meth c cells slots Q cX9_posted D cy ad A .int post) : ∀ (M : Mm) (L : Ml) (v2 : Int32) (s0 : Int32) (H : Heap) (locs : List Loc) (ls : Array Slot), wpX9_posted_50 post M L v2 s0 → zWd D cy ad A s H locs M L → lv_has ls 4 [(0, .ref (ad 42)), (2, .int v2)] → W p l e rmX9_posted s m args below meth c H locs cells slots Q (F0 m 50 ls [.int s0]) := by
  have hx := X.1.1; have hb0 := X.1.2.1; have hts := X.1.2.2.2.2
  intro M L v2 s0 H locs ls hw hW hl
  unfold wpX9_posted_50 at hw
  refine lv_istore_n (lv' := [(3, .int s0), (0, .ref (ad 42)), (2, .int v2)]) hx hb0 dX9_posted_50 rfl hl (by decide) rfl (fun ls hl => ?_)
  refine lv_aload_n hx hb0 dX9_posted_51 rfl (lv_at hl 1 rfl) ?_
  refine lv_iload_n hx hb0 dX9_posted_52 rfl (lv_at hl 2 rfl) ?_
  refine lv_bipush (v := (-6 : Int32)) hx hb0 dX9_posted_53 (by decide) ?_
  refine lv_icmp_eq (tgt := 62) hx hb0 dX9_posted_55 (by decide) (fun c_55 => ?_) (fun c_55 => ?_)
  · replace hw := hw.1 c_55
    refine lv_iload_n hx hb0 dX9_posted_62 rfl (lv_at hl 0 rfl) ?_
    exact mX9_posted_63 X post hret M L s0 _ _ ls hw hW (lv_sub hl [] rfl)
  · replace hw := hw.2 c_55
    refine lv_iload_n hx hb0 dX9_posted_58 rfl (lv_at hl 2 rfl) ?_
    refine lv_goto (tgt := 63) hx hb0 dX9_posted_59 (by decide) ?_
    exact mX9_posted_63 X post hret M L v2 _ _ ls hw hW (lv_sub hl [] rfl)
set_option maxRecDepth 20000 in
set_option maxHeartbeats 4000000 in
theorem mX9_posted {p : Program} {l : Launch} {e : Env} {s : State} {m : MethodId} {args : Array Value} {below : List Frame} {meth : Method} {c : Code} {cells slots : Nat} {Q : State → Prop} {D : va_G} {cy : Nat → ClassId} {ad : Nat → Nat} {A : Nat → Prop} (X : zCx p rmX9_posted s m args c cells slots cX9_posted 4 RX9 D cy ad A) (post : Int32 → Mm → Ml → Prop) (hret : zRi p l e rmX9_posted s m args below meth c cells slots Q cX9_posted D cy ad A .int post) : ∀ (M : Mm) (L : Ml) (x1 : Int32) (H : Heap) (locs : List Loc) (ls : Array Slot), wpX9_posted x1 M L post → zWd D cy ad A s H locs M L → lv_has ls 4 [(0, .ref (ad 42)), (1, .int x1)] → W p l e rmX9_posted s m args below meth c H locs cells slots Q (F0 m 0 ls []) := by
  have hx := X.1.1; have hb0 := X.1.2.1; have hts := X.1.2.2.2.2
  intro M L x1 H locs ls hw hW hl
  unfold wpX9_posted at hw
  refine lv_iload_n hx hb0 dX9_posted_0 rfl (lv_at hl 1 rfl) ?_
  refine lv_i2l hx hb0 dX9_posted_1 rfl ?_
  refine lv_lconst (v := (0 : Int64)) hx hb0 dX9_posted_2 (by decide) ?_
  refine lv_ldc2 (v := (2 : Int64)) hx hb0 X.1.2.2.2.1 (hts _ zk_X9_194) dX9_posted_3 ?_
  refine z_Si X zc_X9_in zt_X9_in zl_X9_86 rfl ⟨rfl, rfl⟩ ⟨Nat.le_of_ble_eq_true rfl, Nat.le_of_ble_eq_true rfl⟩ (kX9_in l D cy ad X.2.2.2.1 (x1.toInt64) (0 : Int64) (2 : Int64)) hW hw hl.1 rfl rfl (Nat.le_of_ble_eq_true rfl) dX9_posted_6 (fun r_6 M_6 L_6 H_6 locs_6 hw hW => ?_)
  refine lv_if_ne (tgt := 15) hx hb0 dX9_posted_9 (by decide) (fun c_9 => ?_) (fun c_9 => ?_)
  · replace hw := hw.1 c_9
    refine lv_aload_n hx hb0 dX9_posted_15 rfl (lv_at hl 0 rfl) ?_
    refine z_Vi X zO_42 zC7 zc_X9_refusal zs_X9_refusal zl_X9_196 rfl ⟨rfl, rfl⟩ ⟨Nat.le_of_ble_eq_true rfl, Nat.le_of_ble_eq_true rfl⟩ (kX9_refusal l D cy ad X.2.2.2.1) hW hw hl.1 rfl rfl (Nat.le_of_ble_eq_true rfl) dX9_posted_16 (fun r_16 M_16 L_16 H_16 locs_16 hw hW => ?_)
    refine lv_istore_n (lv' := [(2, .int r_16), (0, .ref (ad 42)), (1, .int x1)]) hx hb0 dX9_posted_19 rfl hl (by decide) rfl (fun ls hl => ?_)
    refine lv_iload_n hx hb0 dX9_posted_20 rfl (lv_at hl 2 rfl) ?_
    refine lv_if_ne (tgt := 31) hx hb0 dX9_posted_21 (by decide) (fun c_21 => ?_) (fun c_21 => ?_)
    · replace hw := hw.1 c_21
      refine lv_iload_n hx hb0 dX9_posted_31 rfl (lv_at hl 2 rfl) ?_
      refine lv_iconst (v := (1 : Int32)) hx hb0 dX9_posted_32 (by decide) ?_
      refine lv_icmp_ne (tgt := 43) hx hb0 dX9_posted_33 (by decide) (fun c_33 => ?_) (fun c_33 => ?_)
      · replace hw := hw.1 c_33
        refine lv_aload_n hx hb0 dX9_posted_43 rfl (lv_at hl 1 rfl) ?_
        refine z_Vi X zO_42 zC7 zc_X9_riverNow zs_X9_riverNow zl_X9_213 rfl ⟨rfl, rfl⟩ ⟨Nat.le_of_ble_eq_true rfl, Nat.le_of_ble_eq_true rfl⟩ (kX9_riverNow l D cy ad X.2.2.2.1) hW hw hl.1 rfl rfl (Nat.le_of_ble_eq_true rfl) dX9_posted_44 (fun r_44 M_44 L_44 H_44 locs_44 hw hW => ?_)
        refine z_Si X zc_X9_bitsOf zt_X9_bitsOf zl_X9_109 rfl ⟨rfl, rfl⟩ ⟨Nat.le_of_ble_eq_true rfl, Nat.le_of_ble_eq_true rfl⟩ (kX9_bitsOf l D cy ad X.2.2.2.1 r_44) hW hw hl.1 rfl rfl (Nat.le_of_ble_eq_true rfl) dX9_posted_47 (fun r_47 M_47 L_47 H_47 locs_47 hw hW => ?_)
        exact mX9_posted_50 X post hret M_47 L_47 r_16 r_47 _ _ ls hw hW (lv_sub hl [1, 0] rfl)
      · replace hw := hw.2 c_33
        refine lv_aload_n hx hb0 dX9_posted_36 rfl (lv_at hl 1 rfl) ?_
        refine z_getI X hW zC7 zF_42_18 (by decide) rfl zl_X9_154 dX9_posted_37 ?_
        refine lv_goto (tgt := 50) hx hb0 dX9_posted_40 (by decide) ?_
        exact mX9_posted_50 X post hret M_16 L_16 r_16 (M_16 42 18) _ _ ls hw hW (lv_sub hl [1, 0] rfl)
    · replace hw := hw.2 c_21
      refine lv_aload_n hx hb0 dX9_posted_24 rfl (lv_at hl 1 rfl) ?_
      refine z_Vi X zO_42 zC7 zc_X9_postedNow zs_X9_postedNow zl_X9_210 rfl ⟨rfl, rfl⟩ ⟨Nat.le_of_ble_eq_true rfl, Nat.le_of_ble_eq_true rfl⟩ (kX9_postedNow l D cy ad X.2.2.2.1) hW hw hl.1 rfl rfl (Nat.le_of_ble_eq_true rfl) dX9_posted_25 (fun r_25 M_25 L_25 H_25 locs_25 hw hW => ?_)
      refine lv_goto (tgt := 50) hx hb0 dX9_posted_28 (by decide) ?_
      exact mX9_posted_50 X post hret M_25 L_25 r_16 r_25 _ _ ls hw hW (lv_sub hl [1, 0] rfl)
  · replace hw := hw.2 c_9
    refine lv_bipush (v := (-2 : Int32)) hx hb0 dX9_posted_12 (by decide) ?_
    exact hret _ ls _ _ (-2 : Int32) M_6 L_6 dX9_posted_14 rfl hw hW
theorem kX9_posted (l : Launch) (D : va_G) (cy : Nat → ClassId) (ad : Nat → Nat) (hi : zInj ad) (x1 : Int32) : zMi l yX9_posted (.code yX9_posted cX9_posted 4 (some .int) :: zG) rmX9_posted D cy ad [.ref (ad 42), .int x1] (wpX9_posted x1) :=
  zMi_of (by decide +kernel) (Nat.le_of_ble_eq_true rfl) hi (fun X M L post _ hret ls hl hw hW => mX9_posted X post hret M L x1 _ _ ls hw hW hl)
abbrev rmX9_done : Room := { frames := 7, cells := 0, slots := 0, locals := 153 }
set_option maxRecDepth 20000 in
set_option maxHeartbeats 4000000 in
theorem mX9_done {p : Program} {l : Launch} {e : Env} {s : State} {m : MethodId} {args : Array Value} {below : List Frame} {meth : Method} {c : Code} {cells slots : Nat} {Q : State → Prop} {D : va_G} {cy : Nat → ClassId} {ad : Nat → Nat} {A : Nat → Prop} (X : zCx p rmX9_done s m args c cells slots cX9_done 2 RX9 D cy ad A) (post : Int32 → Mm → Ml → Prop) (hret : zRi p l e rmX9_done s m args below meth c cells slots Q cX9_done D cy ad A .int post) : ∀ (M : Mm) (L : Ml) (H : Heap) (locs : List Loc) (ls : Array Slot), wpX9_done M L post → zWd D cy ad A s H locs M L → lv_has ls 2 [(0, .ref (ad 42))] → W p l e rmX9_done s m args below meth c H locs cells slots Q (F0 m 0 ls []) := by
  have hx := X.1.1; have hb0 := X.1.2.1; have hts := X.1.2.2.2.2
  intro M L H locs ls hw hW hl
  unfold wpX9_done at hw
  refine lv_aload_n hx hb0 dX9_done_0 rfl (lv_at hl 0 rfl) ?_
  refine z_Vi X zO_42 zC7 zc_X9_refusal zs_X9_refusal zl_X9_196 rfl ⟨rfl, rfl⟩ ⟨Nat.le_of_ble_eq_true rfl, Nat.le_of_ble_eq_true rfl⟩ (kX9_refusal l D cy ad X.2.2.2.1) hW hw hl.1 rfl rfl (Nat.le_of_ble_eq_true rfl) dX9_done_1 (fun r_1 M_1 L_1 H_1 locs_1 hw hW => ?_)
  refine lv_istore_n (lv' := [(1, .int r_1), (0, .ref (ad 42))]) hx hb0 dX9_done_4 rfl hl (by decide) rfl (fun ls hl => ?_)
  refine lv_iload_n hx hb0 dX9_done_5 rfl (lv_at hl 0 rfl) ?_
  refine lv_bipush (v := (-6 : Int32)) hx hb0 dX9_done_6 (by decide) ?_
  refine lv_icmp_eq (tgt := 17) hx hb0 dX9_done_8 (by decide) (fun c_8 => ?_) (fun c_8 => ?_)
  · replace hw := hw.1 c_8
    refine lv_aload_n hx hb0 dX9_done_17 rfl (lv_at hl 1 rfl) ?_
    refine lv_iconst (v := (0 : Int32)) hx hb0 dX9_done_18 (by decide) ?_
    refine z_put (ty := .int) X hW zC7 zF_42_13 (by decide) rfl zl_X9_120 rfl (by decide +kernel) rfl rfl dX9_done_19 (fun M_19 H_19 locs_19 e_19 hW => ?_)
    replace hw := hw M_19 e_19
    refine lv_aload_n hx hb0 dX9_done_22 rfl (lv_at hl 1 rfl) ?_
    refine z_getI X hW zC7 zF_42_16 (by decide) rfl zl_X9_123 dX9_done_23 ?_
    exact hret _ ls _ _ (M_19 42 16) M_19 L_1 dX9_done_26 rfl hw hW
  · replace hw := hw.2 c_8
    refine lv_aload_n hx hb0 dX9_done_11 rfl (lv_at hl 1 rfl) ?_
    refine lv_iload_n hx hb0 dX9_done_12 rfl (lv_at hl 0 rfl) ?_
    refine z_Vi X zO_42 zC7 zc_X9_back zs_X9_back zl_X9_199 rfl ⟨rfl, rfl⟩ ⟨Nat.le_of_ble_eq_true rfl, Nat.le_of_ble_eq_true rfl⟩ (kX9_back l D cy ad X.2.2.2.1 r_1) hW hw hl.1 rfl rfl (Nat.le_of_ble_eq_true rfl) dX9_done_13 (fun r_13 M_13 L_13 H_13 locs_13 hw hW => ?_)
    exact hret _ ls _ _ r_13 M_13 L_13 dX9_done_16 rfl hw hW
theorem kX9_done (l : Launch) (D : va_G) (cy : Nat → ClassId) (ad : Nat → Nat) (hi : zInj ad) : zMi l yX9_done (.code yX9_done cX9_done 2 (some .int) :: zG) rmX9_done D cy ad [.ref (ad 42)] (wpX9_done) :=
  zMi_of (by decide +kernel) (Nat.le_of_ble_eq_true rfl) hi (fun X M L post _ hret ls hl hw hW => mX9_done X post hret M L _ _ ls hw hW hl)
abbrev rmX9_says : Room := { frames := 2, cells := 0, slots := 0, locals := 45 }
set_option maxRecDepth 20000 in
set_option maxHeartbeats 4000000 in
theorem mX9_says_84 {p : Program} {l : Launch} {e : Env} {s : State} {m : MethodId} {args : Array Value} {below : List Frame} {meth : Method} {c : Code} {cells slots : Nat} {Q : State → Prop} {D : va_G} {cy : Nat → ClassId} {ad : Nat → Nat} {A : Nat → Prop} (X : zCx p rmX9_says s m args c cells slots cX9_says 6 RX9 D cy ad A) (post : Int32 → Mm → Ml → Prop) (hret : zRi p l e rmX9_says s m args below meth c cells slots Q cX9_says D cy ad A .int post) (K17 : Mm → Ml → Int32 → Int32 → Int32 → Int32 → Prop) (hK17 : ∀ (M : Mm) (L : Ml) (v1 : Int32) (v2 : Int32) (v3 : Int32) (v4 : Int32) (H : Heap) (locs : List Loc) (ls : Array Slot), K17 M L v1 v2 v3 v4 → zWd D cy ad A s H locs M L → lv_has ls 6 [(1, .int v1), (2, .int v2), (3, .int v3), (4, .int v4)] → W p l e rmX9_says s m args below meth c H locs cells slots Q (F0 m 17 ls [])) : ∀ (M : Mm) (L : Ml) (v1 : Int32) (v2 : Int32) (v4 : Int32) (s0 : Int32) (H : Heap) (locs : List Loc) (ls : Array Slot), wpX9_says_84 post K17 M L v1 v2 v4 s0 → zWd D cy ad A s H locs M L → lv_has ls 6 [(1, .int v1), (2, .int v2), (4, .int v4)] → W p l e rmX9_says s m args below meth c H locs cells slots Q (F0 m 84 ls [.int s0]) := by
  have hx := X.1.1; have hb0 := X.1.2.1; have hts := X.1.2.2.2.2
  intro M L v1 v2 v4 s0 H locs ls hw hW hl
  unfold wpX9_says_84 at hw
  refine lv_istore_n (lv' := [(3, .int s0), (1, .int v1), (2, .int v2), (4, .int v4)]) hx hb0 dX9_says_84 rfl hl (by decide) rfl (fun ls hl => ?_)
  obtain ⟨a_85, e_85⟩ : ∃ y : Int32, y = v4 + (1 : Int32) := ⟨_, rfl⟩
  replace hw := hw a_85 e_85
  refine lv_iinc (v := a_85) (lv' := [(4, .int a_85), (3, .int s0), (1, .int v1), (2, .int v2)]) hx hb0 dX9_says_85 hl (k := 3) rfl (by rw [e_85]; rfl) (by decide) rfl (fun ls hl => ?_)
  refine lv_goto (tgt := 17) hx hb0 dX9_says_88 (by decide) ?_
  exact hK17 M L v1 v2 s0 a_85 _ _ ls hw hW (lv_sub hl [2, 3, 1, 0] rfl)
set_option maxRecDepth 20000 in
set_option maxHeartbeats 4000000 in
theorem mX9_says_73 {p : Program} {l : Launch} {e : Env} {s : State} {m : MethodId} {args : Array Value} {below : List Frame} {meth : Method} {c : Code} {cells slots : Nat} {Q : State → Prop} {D : va_G} {cy : Nat → ClassId} {ad : Nat → Nat} {A : Nat → Prop} (X : zCx p rmX9_says s m args c cells slots cX9_says 6 RX9 D cy ad A) (post : Int32 → Mm → Ml → Prop) (hret : zRi p l e rmX9_says s m args below meth c cells slots Q cX9_says D cy ad A .int post) (K17 : Mm → Ml → Int32 → Int32 → Int32 → Int32 → Prop) (hK17 : ∀ (M : Mm) (L : Ml) (v1 : Int32) (v2 : Int32) (v3 : Int32) (v4 : Int32) (H : Heap) (locs : List Loc) (ls : Array Slot), K17 M L v1 v2 v3 v4 → zWd D cy ad A s H locs M L → lv_has ls 6 [(1, .int v1), (2, .int v2), (3, .int v3), (4, .int v4)] → W p l e rmX9_says s m args below meth c H locs cells slots Q (F0 m 17 ls [])) : ∀ (M : Mm) (L : Ml) (v1 : Int32) (v3 : Int32) (v4 : Int32) (v5 : Int32) (s0 : Int32) (H : Heap) (locs : List Loc) (ls : Array Slot), wpX9_says_73 post K17 M L v1 v3 v4 v5 s0 → zWd D cy ad A s H locs M L → lv_has ls 6 [(1, .int v1), (3, .int v3), (4, .int v4), (5, .int v5)] → W p l e rmX9_says s m args below meth c H locs cells slots Q (F0 m 73 ls [.int s0]) := by
  have hx := X.1.1; have hb0 := X.1.2.1; have hts := X.1.2.2.2.2
  intro M L v1 v3 v4 v5 s0 H locs ls hw hW hl
  unfold wpX9_says_73 at hw
  refine lv_istore_n (lv' := [(2, .int s0), (1, .int v1), (3, .int v3), (4, .int v4), (5, .int v5)]) hx hb0 dX9_says_73 rfl hl (by decide) rfl (fun ls hl => ?_)
  refine lv_iload hx hb0 dX9_says_74 (lv_at hl 4 rfl) ?_
  refine lv_if_eq (tgt := 83) hx hb0 dX9_says_76 (by decide) (fun c_76 => ?_) (fun c_76 => ?_)
  · replace hw := hw.1 c_76
    refine lv_iload_n hx hb0 dX9_says_83 rfl (lv_at hl 2 rfl) ?_
    exact mX9_says_84 X post hret K17 hK17 M L v1 s0 v4 v3 _ _ ls hw hW (lv_sub hl [1, 0, 3] rfl)
  · replace hw := hw.2 c_76
    refine lv_iconst (v := (0 : Int32)) hx hb0 dX9_says_79 (by decide) ?_
    refine lv_goto (tgt := 84) hx hb0 dX9_says_80 (by decide) ?_
    exact mX9_says_84 X post hret K17 hK17 M L v1 s0 v4 (0 : Int32) _ _ ls hw hW (lv_sub hl [1, 0, 3] rfl)
set_option maxRecDepth 20000 in
set_option maxHeartbeats 4000000 in
theorem mX9_says_56 {p : Program} {l : Launch} {e : Env} {s : State} {m : MethodId} {args : Array Value} {below : List Frame} {meth : Method} {c : Code} {cells slots : Nat} {Q : State → Prop} {D : va_G} {cy : Nat → ClassId} {ad : Nat → Nat} {A : Nat → Prop} (X : zCx p rmX9_says s m args c cells slots cX9_says 6 RX9 D cy ad A) (post : Int32 → Mm → Ml → Prop) (hret : zRi p l e rmX9_says s m args below meth c cells slots Q cX9_says D cy ad A .int post) (K17 : Mm → Ml → Int32 → Int32 → Int32 → Int32 → Prop) (hK17 : ∀ (M : Mm) (L : Ml) (v1 : Int32) (v2 : Int32) (v3 : Int32) (v4 : Int32) (H : Heap) (locs : List Loc) (ls : Array Slot), K17 M L v1 v2 v3 v4 → zWd D cy ad A s H locs M L → lv_has ls 6 [(1, .int v1), (2, .int v2), (3, .int v3), (4, .int v4)] → W p l e rmX9_says s m args below meth c H locs cells slots Q (F0 m 17 ls [])) : ∀ (M : Mm) (L : Ml) (v1 : Int32) (v2 : Int32) (v3 : Int32) (v4 : Int32) (s0 : Int32) (H : Heap) (locs : List Loc) (ls : Array Slot), wpX9_says_56 post K17 M L v1 v2 v3 v4 s0 → zWd D cy ad A s H locs M L → lv_has ls 6 [(1, .int v1), (2, .int v2), (3, .int v3), (4, .int v4)] → W p l e rmX9_says s m args below meth c H locs cells slots Q (F0 m 56 ls [.int s0]) := by
  have hx := X.1.1; have hb0 := X.1.2.1; have hts := X.1.2.2.2.2
  intro M L v1 v2 v3 v4 s0 H locs ls hw hW hl
  unfold wpX9_says_56 at hw
  refine lv_istore (lv' := [(5, .int s0), (1, .int v1), (2, .int v2), (3, .int v3), (4, .int v4)]) hx hb0 dX9_says_56 hl (by decide) rfl (fun ls hl => ?_)
  refine lv_iload hx hb0 dX9_says_58 (lv_at hl 0 rfl) ?_
  refine lv_if_eq (tgt := 72) hx hb0 dX9_says_60 (by decide) (fun c_60 => ?_) (fun c_60 => ?_)
  · replace hw := hw.1 c_60
    refine lv_iload_n hx hb0 dX9_says_72 rfl (lv_at hl 2 rfl) ?_
    exact mX9_says_73 X post hret K17 hK17 M L v1 v3 v4 s0 v2 _ _ ls hw hW (lv_sub hl [1, 3, 4, 0] rfl)
  · replace hw := hw.2 c_60
    refine lv_bipush (v := (10 : Int32)) hx hb0 dX9_says_63 (by decide) ?_
    refine lv_iload_n hx hb0 dX9_says_65 rfl (lv_at hl 2 rfl) ?_
    refine lv_imul hx hb0 dX9_says_66 ?_
    refine lv_iload_n hx hb0 dX9_says_67 rfl (lv_at hl 3 rfl) ?_
    refine lv_iadd hx hb0 dX9_says_68 ?_
    refine lv_goto (tgt := 73) hx hb0 dX9_says_69 (by decide) ?_
    exact mX9_says_73 X post hret K17 hK17 M L v1 v3 v4 s0 (((10 : Int32) * v2) + v3) _ _ ls hw hW (lv_sub hl [1, 3, 4, 0] rfl)
set_option maxRecDepth 20000 in
set_option maxHeartbeats 4000000 in
theorem mX9_says_51 {p : Program} {l : Launch} {e : Env} {s : State} {m : MethodId} {args : Array Value} {below : List Frame} {meth : Method} {c : Code} {cells slots : Nat} {Q : State → Prop} {D : va_G} {cy : Nat → ClassId} {ad : Nat → Nat} {A : Nat → Prop} (X : zCx p rmX9_says s m args c cells slots cX9_says 6 RX9 D cy ad A) (post : Int32 → Mm → Ml → Prop) (hret : zRi p l e rmX9_says s m args below meth c cells slots Q cX9_says D cy ad A .int post) (K17 : Mm → Ml → Int32 → Int32 → Int32 → Int32 → Prop) (hK17 : ∀ (M : Mm) (L : Ml) (v1 : Int32) (v2 : Int32) (v3 : Int32) (v4 : Int32) (H : Heap) (locs : List Loc) (ls : Array Slot), K17 M L v1 v2 v3 v4 → zWd D cy ad A s H locs M L → lv_has ls 6 [(1, .int v1), (2, .int v2), (3, .int v3), (4, .int v4)] → W p l e rmX9_says s m args below meth c H locs cells slots Q (F0 m 17 ls [])) : ∀ (M : Mm) (L : Ml) (v1 : Int32) (v2 : Int32) (v3 : Int32) (v4 : Int32) (H : Heap) (locs : List Loc) (ls : Array Slot), wpX9_says_51 post K17 M L v1 v2 v3 v4 → zWd D cy ad A s H locs M L → lv_has ls 6 [(1, .int v1), (2, .int v2), (3, .int v3), (4, .int v4)] → W p l e rmX9_says s m args below meth c H locs cells slots Q (F0 m 51 ls []) := by
  have hx := X.1.1; have hb0 := X.1.2.1; have hts := X.1.2.2.2.2
  intro M L v1 v2 v3 v4 H locs ls hw hW hl
  unfold wpX9_says_51 at hw
  refine lv_iconst (v := (1 : Int32)) hx hb0 dX9_says_51 (by decide) ?_
  refine lv_goto (tgt := 56) hx hb0 dX9_says_52 (by decide) ?_
  exact mX9_says_56 X post hret K17 hK17 M L v1 v2 v3 v4 (1 : Int32) _ _ ls hw hW (lv_sub hl [0, 1, 2, 3] rfl)
set_option maxRecDepth 20000 in
set_option maxHeartbeats 4000000 in
theorem mX9_says_17 {p : Program} {l : Launch} {e : Env} {s : State} {m : MethodId} {args : Array Value} {below : List Frame} {meth : Method} {c : Code} {cells slots : Nat} {Q : State → Prop} {D : va_G} {cy : Nat → ClassId} {ad : Nat → Nat} {A : Nat → Prop} (X : zCx p rmX9_says s m args c cells slots cX9_says 6 RX9 D cy ad A) (post : Int32 → Mm → Ml → Prop) (hret : zRi p l e rmX9_says s m args below meth c cells slots Q cX9_says D cy ad A .int post) : ∀ (j9 : Nat) (M : Mm) (L : Ml) (v1 : Int32) (v2 : Int32) (v3 : Int32) (v4 : Int32) (H : Heap) (locs : List Loc) (ls : Array Slot), wlX9_says_17 post j9 (M, L, v1, v2, v3, v4) → zWd D cy ad A s H locs M L → lv_has ls 6 [(1, .int v1), (2, .int v2), (3, .int v3), (4, .int v4)] → W p l e rmX9_says s m args below meth c H locs cells slots Q (F0 m 17 ls []) := by
  have hx := X.1.1; have hb0 := X.1.2.1; have hts := X.1.2.2.2.2
  intro j9
  induction j9 with
  | zero => intro M L v1 v2 v3 v4 H locs ls hw; exact hw.elim
  | succ j9 ih =>
    obtain ⟨K17, hKe⟩ : ∃ K : Mm → Ml → Int32 → Int32 → Int32 → Int32 → Prop, K = fun M L v1 v2 v3 v4 => wlX9_says_17 post j9 (M, L, v1, v2, v3, v4) := ⟨_, rfl⟩
    have hK17 : ∀ (M : Mm) (L : Ml) (v1 : Int32) (v2 : Int32) (v3 : Int32) (v4 : Int32) (H : Heap) (locs : List Loc) (ls : Array Slot), K17 M L v1 v2 v3 v4 → zWd D cy ad A s H locs M L → lv_has ls 6 [(1, .int v1), (2, .int v2), (3, .int v3), (4, .int v4)] → W p l e rmX9_says s m args below meth c H locs cells slots Q (F0 m 17 ls []) := by intro M L v1 v2 v3 v4 H locs ls hw; rw [hKe] at hw; exact ih M L v1 v2 v3 v4 H locs ls hw
    intro M L v1 v2 v3 v4 H locs ls hw hW hl
    have hw : wpX9_says_17 post K17 M L v1 v2 v3 v4 := by rw [hKe]; exact hw
    clear ih
    unfold wpX9_says_17 at hw
    refine lv_iload hx hb0 dX9_says_17 (lv_at hl 3 rfl) ?_
    refine lv_bipush (v := (8 : Int32)) hx hb0 dX9_says_19 (by decide) ?_
    refine lv_icmp_ge (tgt := 91) hx hb0 dX9_says_21 (by decide) (fun c_21 => ?_) (fun c_21 => ?_)
    · replace hw := hw.1 c_21
      refine lv_iload_n hx hb0 dX9_says_91 rfl (lv_at hl 1 rfl) ?_
      exact hret _ ls _ _ v2 M L dX9_says_92 rfl hw hW
    · replace hw := hw.2 c_21
      obtain ⟨a_24, e_24⟩ : ∃ y : Int32, y = v3 + (1 : Int32) := ⟨_, rfl⟩
      replace hw := hw a_24 e_24
      refine lv_iinc (v := a_24) (lv' := [(3, .int a_24), (1, .int v1), (2, .int v2), (4, .int v4)]) hx hb0 dX9_says_24 hl (k := 2) rfl (by rw [e_24]; rfl) (by decide) rfl (fun ls hl => ?_)
      refine lv_iload hx hb0 dX9_says_27 (lv_at hl 3 rfl) ?_
      refine lv_bipush (v := (7 : Int32)) hx hb0 dX9_says_29 (by decide) ?_
      refine lv_icmp_eq (tgt := 51) hx hb0 dX9_says_31 (by decide) (fun c_31 => ?_) (fun c_31 => ?_)
      · replace hw := hw.1 c_31
        exact mX9_says_51 X post hret K17 hK17 M L v1 v2 a_24 v4 _ _ ls hw hW (lv_sub hl [1, 2, 0, 3] rfl)
      · replace hw := hw.2 c_31
        refine lv_iload_n hx hb0 dX9_says_34 rfl (lv_at hl 1 rfl) ?_
        refine lv_iload hx hb0 dX9_says_35 (lv_at hl 3 rfl) ?_
        refine lv_ishr hx hb0 dX9_says_37 ?_
        refine lv_iconst (v := (1 : Int32)) hx hb0 dX9_says_38 (by decide) ?_
        refine lv_iand hx hb0 dX9_says_39 ?_
        refine lv_iload_n hx hb0 dX9_says_40 rfl (lv_at hl 1 rfl) ?_
        refine lv_iload hx hb0 dX9_says_41 (lv_at hl 3 rfl) ?_
        refine lv_iconst (v := (1 : Int32)) hx hb0 dX9_says_43 (by decide) ?_
        refine lv_iadd hx hb0 dX9_says_44 ?_
        refine lv_ishr hx hb0 dX9_says_45 ?_
        refine lv_iconst (v := (1 : Int32)) hx hb0 dX9_says_46 (by decide) ?_
        refine lv_iand hx hb0 dX9_says_47 ?_
        refine lv_icmp_eq (tgt := 55) hx hb0 dX9_says_48 (by decide) (fun c_48 => ?_) (fun c_48 => ?_)
        · replace hw := hw.1 c_48
          refine lv_iconst (v := (0 : Int32)) hx hb0 dX9_says_55 (by decide) ?_
          exact mX9_says_56 X post hret K17 hK17 M L v1 v2 a_24 v4 (0 : Int32) _ _ ls hw hW (lv_sub hl [1, 2, 0, 3] rfl)
        · replace hw := hw.2 c_48
          exact mX9_says_51 X post hret K17 hK17 M L v1 v2 a_24 v4 _ _ ls hw hW (lv_sub hl [1, 2, 0, 3] rfl)
set_option maxRecDepth 20000 in
set_option maxHeartbeats 4000000 in
theorem mX9_says {p : Program} {l : Launch} {e : Env} {s : State} {m : MethodId} {args : Array Value} {below : List Frame} {meth : Method} {c : Code} {cells slots : Nat} {Q : State → Prop} {D : va_G} {cy : Nat → ClassId} {ad : Nat → Nat} {A : Nat → Prop} (X : zCx p rmX9_says s m args c cells slots cX9_says 6 RX9 D cy ad A) (post : Int32 → Mm → Ml → Prop) (hret : zRi p l e rmX9_says s m args below meth c cells slots Q cX9_says D cy ad A .int post) : ∀ (M : Mm) (L : Ml) (x1 : Int32) (H : Heap) (locs : List Loc) (ls : Array Slot), wpX9_says x1 M L post → zWd D cy ad A s H locs M L → lv_has ls 6 [(0, .ref (ad 42)), (1, .int x1)] → W p l e rmX9_says s m args below meth c H locs cells slots Q (F0 m 0 ls []) := by
  have hx := X.1.1; have hb0 := X.1.2.1; have hts := X.1.2.2.2.2
  intro M L x1 H locs ls hw hW hl
  unfold wpX9_says at hw
  refine lv_iload_n hx hb0 dX9_says_0 rfl (lv_at hl 1 rfl) ?_
  refine z_Si X zc_X9_isArm zt_X9_isArm zl_X9_102 rfl ⟨rfl, rfl⟩ ⟨Nat.le_of_ble_eq_true rfl, Nat.le_of_ble_eq_true rfl⟩ (kX9_isArm l D cy ad X.2.2.2.1 x1) hW hw hl.1 rfl rfl (Nat.le_of_ble_eq_true rfl) dX9_says_1 (fun r_1 M_1 L_1 H_1 locs_1 hw hW => ?_)
  refine lv_if_ne (tgt := 10) hx hb0 dX9_says_4 (by decide) (fun c_4 => ?_) (fun c_4 => ?_)
  · replace hw := hw.1 c_4
    refine lv_iconst (v := (0 : Int32)) hx hb0 dX9_says_10 (by decide) ?_
    refine lv_istore_n (lv' := [(2, .int (0 : Int32)), (0, .ref (ad 42)), (1, .int x1)]) hx hb0 dX9_says_11 rfl hl (by decide) rfl (fun ls hl => ?_)
    refine lv_iconst (v := (0 : Int32)) hx hb0 dX9_says_12 (by decide) ?_
    refine lv_istore_n (lv' := [(3, .int (0 : Int32)), (2, .int (0 : Int32)), (0, .ref (ad 42)), (1, .int x1)]) hx hb0 dX9_says_13 rfl hl (by decide) rfl (fun ls hl => ?_)
    refine lv_iconst (v := (0 : Int32)) hx hb0 dX9_says_14 (by decide) ?_
    refine lv_istore (lv' := [(4, .int (0 : Int32)), (3, .int (0 : Int32)), (2, .int (0 : Int32)), (0, .ref (ad 42)), (1, .int x1)]) hx hb0 dX9_says_15 hl (by decide) rfl (fun ls hl => ?_)
    obtain ⟨n_17, hw⟩ := hw
    exact mX9_says_17 X post hret n_17 M_1 L_1 x1 (0 : Int32) (0 : Int32) (0 : Int32) _ _ ls hw hW (lv_sub hl [4, 2, 1, 0] rfl)
  · replace hw := hw.2 c_4
    refine lv_bipush (v := (-2 : Int32)) hx hb0 dX9_says_7 (by decide) ?_
    exact hret _ ls _ _ (-2 : Int32) M_1 L_1 dX9_says_9 rfl hw hW
theorem kX9_says (l : Launch) (D : va_G) (cy : Nat → ClassId) (ad : Nat → Nat) (hi : zInj ad) (x1 : Int32) : zMi l yX9_says (.code yX9_says cX9_says 6 (some .int) :: zG) rmX9_says D cy ad [.ref (ad 42), .int x1] (wpX9_says x1) :=
  zMi_of (by decide +kernel) (Nat.le_of_ble_eq_true rfl) hi (fun X M L post _ hret ls hl hw hW => mX9_says X post hret M L x1 _ _ ls hw hW hl)
abbrev rmX9_findWays : Room := { frames := 1, cells := 0, slots := 0, locals := 27 }
set_option maxRecDepth 20000 in
set_option maxHeartbeats 4000000 in
theorem mX9_findWays_24 {p : Program} {l : Launch} {e : Env} {s : State} {m : MethodId} {args : Array Value} {below : List Frame} {meth : Method} {c : Code} {cells slots : Nat} {Q : State → Prop} {D : va_G} {cy : Nat → ClassId} {ad : Nat → Nat} {A : Nat → Prop} (X : zCx p rmX9_findWays s m args c cells slots cX9_findWays 6 RX9 D cy ad A) (post : Mm → Ml → Prop) (hret : zRv p l e rmX9_findWays s m args below meth c cells slots Q cX9_findWays D cy ad A post) (K2 : Mm → Ml → Int32 → Int32 → Int32 → Prop) (hK2 : ∀ (M : Mm) (L : Ml) (v1 : Int32) (v2 : Int32) (v3 : Int32) (H : Heap) (locs : List Loc) (ls : Array Slot), K2 M L v1 v2 v3 → zWd D cy ad A s H locs M L → lv_has ls 6 [(0, .ref (ad 42)), (1, .int v1), (2, .int v2), (3, .int v3)] → W p l e rmX9_findWays s m args below meth c H locs cells slots Q (F0 m 2 ls [])) : ∀ (M : Mm) (L : Ml) (v1 : Int32) (v2 : Int32) (v3 : Int32) (s0 : Int64) (s1 : Int32) (H : Heap) (locs : List Loc) (ls : Array Slot), wpX9_findWays_24 post K2 M L v1 v2 v3 s0 s1 → zWd D cy ad A s H locs M L → lv_has ls 6 [(0, .ref (ad 42)), (1, .int v1), (2, .int v2), (3, .int v3)] → W p l e rmX9_findWays s m args below meth c H locs cells slots Q (F0 m 24 ls [.long s0, .int s1, .ref (ad 57)]) := by
  have hx := X.1.1; have hb0 := X.1.2.1; have hts := X.1.2.2.2.2
  intro M L v1 v2 v3 s0 s1 H locs ls hw hW hl
  unfold wpX9_findWays_24 at hw
  obtain ⟨g_24, hw⟩ := hw
  refine z_last X hW zI_57 g_24 dX9_findWays_24 (fun L_24 H_24 locs_24 e_24 hW => ?_)
  replace hw := hw L_24 e_24
  obtain ⟨a_25, e_25⟩ : ∃ y : Int32, y = v3 + (1 : Int32) := ⟨_, rfl⟩
  replace hw := hw a_25 e_25
  refine lv_iinc (v := a_25) (lv' := [(3, .int a_25), (0, .ref (ad 42)), (1, .int v1), (2, .int v2)]) hx hb0 dX9_findWays_25 hl (k := 3) rfl (by rw [e_25]; rfl) (by decide) rfl (fun ls hl => ?_)
  refine lv_goto (tgt := 2) hx hb0 dX9_findWays_28 (by decide) ?_
  exact hK2 M L_24 v1 v2 a_25 _ _ ls hw hW (lv_sub hl [1, 2, 3, 0] rfl)
set_option maxRecDepth 20000 in
set_option maxHeartbeats 4000000 in
theorem mX9_findWays_41 {p : Program} {l : Launch} {e : Env} {s : State} {m : MethodId} {args : Array Value} {below : List Frame} {meth : Method} {c : Code} {cells slots : Nat} {Q : State → Prop} {D : va_G} {cy : Nat → ClassId} {ad : Nat → Nat} {A : Nat → Prop} (X : zCx p rmX9_findWays s m args c cells slots cX9_findWays 6 RX9 D cy ad A) (post : Mm → Ml → Prop) (hret : zRv p l e rmX9_findWays s m args below meth c cells slots Q cX9_findWays D cy ad A post) (K33 : Mm → Ml → Int32 → Int32 → Prop) (hK33 : ∀ (M : Mm) (L : Ml) (v2 : Int32) (v3 : Int32) (H : Heap) (locs : List Loc) (ls : Array Slot), K33 M L v2 v3 → zWd D cy ad A s H locs M L → lv_has ls 6 [(0, .ref (ad 42)), (2, .int v2), (3, .int v3)] → W p l e rmX9_findWays s m args below meth c H locs cells slots Q (F0 m 33 ls [])) : ∀ (j9 : Nat) (M : Mm) (L : Ml) (v2 : Int32) (v3 : Int32) (v4 : Int32) (H : Heap) (locs : List Loc) (ls : Array Slot), wlX9_findWays_41 post K33 j9 (M, L, v2, v3, v4) → zWd D cy ad A s H locs M L → lv_has ls 6 [(0, .ref (ad 42)), (2, .int v2), (3, .int v3), (4, .int v4)] → W p l e rmX9_findWays s m args below meth c H locs cells slots Q (F0 m 41 ls []) := by
  have hx := X.1.1; have hb0 := X.1.2.1; have hts := X.1.2.2.2.2
  intro j9
  induction j9 with
  | zero => intro M L v2 v3 v4 H locs ls hw; exact hw.elim
  | succ j9 ih =>
    obtain ⟨K41, hKe⟩ : ∃ K : Mm → Ml → Int32 → Int32 → Int32 → Prop, K = fun M L v2 v3 v4 => wlX9_findWays_41 post K33 j9 (M, L, v2, v3, v4) := ⟨_, rfl⟩
    have hK41 : ∀ (M : Mm) (L : Ml) (v2 : Int32) (v3 : Int32) (v4 : Int32) (H : Heap) (locs : List Loc) (ls : Array Slot), K41 M L v2 v3 v4 → zWd D cy ad A s H locs M L → lv_has ls 6 [(0, .ref (ad 42)), (2, .int v2), (3, .int v3), (4, .int v4)] → W p l e rmX9_findWays s m args below meth c H locs cells slots Q (F0 m 41 ls []) := by intro M L v2 v3 v4 H locs ls hw; rw [hKe] at hw; exact ih M L v2 v3 v4 H locs ls hw
    intro M L v2 v3 v4 H locs ls hw hW hl
    have hw : wpX9_findWays_41 post K33 K41 M L v2 v3 v4 := by rw [hKe]; exact hw
    clear ih
    unfold wpX9_findWays_41 at hw
    refine lv_iload hx hb0 dX9_findWays_41 (lv_at hl 3 rfl) ?_
    refine lv_sipush (v := (256 : Int32)) hx hb0 dX9_findWays_43 (by decide) ?_
    refine lv_icmp_ge (tgt := 116) hx hb0 dX9_findWays_46 (by decide) (fun c_46 => ?_) (fun c_46 => ?_)
    · replace hw := hw.1 c_46
      obtain ⟨a_116, e_116⟩ : ∃ y : Int32, y = v3 + (1 : Int32) := ⟨_, rfl⟩
      replace hw := hw a_116 e_116
      refine lv_iinc (v := a_116) (lv' := [(3, .int a_116), (0, .ref (ad 42)), (2, .int v2), (4, .int v4)]) hx hb0 dX9_findWays_116 hl (k := 2) rfl (by rw [e_116]; rfl) (by decide) rfl (fun ls hl => ?_)
      refine lv_goto (tgt := 33) hx hb0 dX9_findWays_119 (by decide) ?_
      exact hK33 M L v2 a_116 _ _ ls hw hW (lv_sub hl [1, 2, 0] rfl)
    · replace hw := hw.2 c_46
      refine lv_sipush (v := (256 : Int32)) hx hb0 dX9_findWays_49 (by decide) ?_
      refine lv_iload_n hx hb0 dX9_findWays_52 rfl (lv_at hl 2 rfl) ?_
      refine lv_iconst (v := (1 : Int32)) hx hb0 dX9_findWays_53 (by decide) ?_
      refine lv_isub hx hb0 dX9_findWays_54 ?_
      refine lv_imul hx hb0 dX9_findWays_55 ?_
      refine lv_topi (fun a_56 e_56 => ?_)
      replace hw := hw a_56 e_56
      refine lv_istore (lv' := [(5, .int a_56), (0, .ref (ad 42)), (2, .int v2), (3, .int v3), (4, .int v4)]) hx hb0 dX9_findWays_56 hl (by decide) rfl (fun ls hl => ?_)
      refine lv_aload_n hx hb0 dX9_findWays_58 rfl (lv_at hl 1 rfl) ?_
      refine z_getR (k2 := 57) X hW zC7 zR_42_23 (by decide) rfl zl_X9_52 dX9_findWays_59 ?_
      refine lv_sipush (v := (256 : Int32)) hx hb0 dX9_findWays_62 (by decide) ?_
      refine lv_iload_n hx hb0 dX9_findWays_65 rfl (lv_at hl 3 rfl) ?_
      refine lv_imul hx hb0 dX9_findWays_66 ?_
      refine lv_iload hx hb0 dX9_findWays_67 (lv_at hl 4 rfl) ?_
      refine lv_iadd hx hb0 dX9_findWays_69 ?_
      refine lv_aload_n hx hb0 dX9_findWays_70 rfl (lv_at hl 1 rfl) ?_
      refine z_getR (k2 := 57) X hW zC7 zR_42_23 (by decide) rfl zl_X9_52 dX9_findWays_71 ?_
      refine lv_iload hx hb0 dX9_findWays_74 (lv_at hl 0 rfl) ?_
      refine lv_iload hx hb0 dX9_findWays_76 (lv_at hl 4 rfl) ?_
      refine lv_aload_n hx hb0 dX9_findWays_78 rfl (lv_at hl 1 rfl) ?_
      refine z_getR (k2 := 50) X hW zC7 zR_42_8 (by decide) rfl zl_X9_31 dX9_findWays_79 ?_
      refine lv_iconst (v := (0 : Int32)) hx hb0 dX9_findWays_82 (by decide) ?_
      obtain ⟨g_83, hw⟩ := hw
      refine z_iald X hW zI_50 g_83 dX9_findWays_83 ?_
      refine z_Si X zc_X9_grown zt_X9_grown zl_X9_144 rfl ⟨rfl, rfl⟩ ⟨Nat.le_of_ble_eq_true rfl, Nat.le_of_ble_eq_true rfl⟩ (kX9_grown l D cy ad X.2.2.2.1 v4 (M 50 (0 : Int32).toNatClampNeg)) hW hw hl.1 rfl rfl (Nat.le_of_ble_eq_true rfl) dX9_findWays_84 (fun r_84 M_84 L_84 H_84 locs_84 hw hW => ?_)
      refine lv_iadd hx hb0 dX9_findWays_87 ?_
      obtain ⟨g_88, hw⟩ := hw
      refine z_lald X hW zI_57 g_88 dX9_findWays_88 ?_
      refine lv_aload_n hx hb0 dX9_findWays_89 rfl (lv_at hl 1 rfl) ?_
      refine z_getR (k2 := 57) X hW zC7 zR_42_23 (by decide) rfl zl_X9_52 dX9_findWays_90 ?_
      refine lv_iload hx hb0 dX9_findWays_93 (lv_at hl 0 rfl) ?_
      refine lv_iload hx hb0 dX9_findWays_95 (lv_at hl 4 rfl) ?_
      refine lv_aload_n hx hb0 dX9_findWays_97 rfl (lv_at hl 1 rfl) ?_
      refine z_getR (k2 := 50) X hW zC7 zR_42_8 (by decide) rfl zl_X9_31 dX9_findWays_98 ?_
      refine lv_iconst (v := (1 : Int32)) hx hb0 dX9_findWays_101 (by decide) ?_
      obtain ⟨g_102, hw⟩ := hw
      refine z_iald X hW zI_50 g_102 dX9_findWays_102 ?_
      refine z_Si X zc_X9_grown zt_X9_grown zl_X9_144 rfl ⟨rfl, rfl⟩ ⟨Nat.le_of_ble_eq_true rfl, Nat.le_of_ble_eq_true rfl⟩ (kX9_grown l D cy ad X.2.2.2.1 v4 (M_84 50 (1 : Int32).toNatClampNeg)) hW hw hl.1 rfl rfl (Nat.le_of_ble_eq_true rfl) dX9_findWays_103 (fun r_103 M_103 L_103 H_103 locs_103 hw hW => ?_)
      refine lv_iadd hx hb0 dX9_findWays_106 ?_
      obtain ⟨g_107, hw⟩ := hw
      refine z_lald X hW zI_57 g_107 dX9_findWays_107 ?_
      refine lv_ladd hx hb0 dX9_findWays_108 ?_
      obtain ⟨g_109, hw⟩ := hw
      refine z_last X hW zI_57 g_109 dX9_findWays_109 (fun L_109 H_109 locs_109 e_109 hW => ?_)
      replace hw := hw L_109 e_109
      obtain ⟨a_110, e_110⟩ : ∃ y : Int32, y = v4 + (1 : Int32) := ⟨_, rfl⟩
      replace hw := hw a_110 e_110
      refine lv_iinc (v := a_110) (lv' := [(4, .int a_110), (5, .int a_56), (0, .ref (ad 42)), (2, .int v2), (3, .int v3)]) hx hb0 dX9_findWays_110 hl (k := 4) rfl (by rw [e_110]; rfl) (by decide) rfl (fun ls hl => ?_)
      refine lv_goto (tgt := 41) hx hb0 dX9_findWays_113 (by decide) ?_
      exact hK41 M_103 L_109 v2 v3 a_110 _ _ ls hw hW (lv_sub hl [2, 3, 4, 0] rfl)
set_option maxRecDepth 20000 in
set_option maxHeartbeats 4000000 in
theorem mX9_findWays_33 {p : Program} {l : Launch} {e : Env} {s : State} {m : MethodId} {args : Array Value} {below : List Frame} {meth : Method} {c : Code} {cells slots : Nat} {Q : State → Prop} {D : va_G} {cy : Nat → ClassId} {ad : Nat → Nat} {A : Nat → Prop} (X : zCx p rmX9_findWays s m args c cells slots cX9_findWays 6 RX9 D cy ad A) (post : Mm → Ml → Prop) (hret : zRv p l e rmX9_findWays s m args below meth c cells slots Q cX9_findWays D cy ad A post) : ∀ (j9 : Nat) (M : Mm) (L : Ml) (v2 : Int32) (v3 : Int32) (H : Heap) (locs : List Loc) (ls : Array Slot), wlX9_findWays_33 post j9 (M, L, v2, v3) → zWd D cy ad A s H locs M L → lv_has ls 6 [(0, .ref (ad 42)), (2, .int v2), (3, .int v3)] → W p l e rmX9_findWays s m args below meth c H locs cells slots Q (F0 m 33 ls []) := by
  have hx := X.1.1; have hb0 := X.1.2.1; have hts := X.1.2.2.2.2
  intro j9
  induction j9 with
  | zero => intro M L v2 v3 H locs ls hw; exact hw.elim
  | succ j9 ih =>
    obtain ⟨K33, hKe⟩ : ∃ K : Mm → Ml → Int32 → Int32 → Prop, K = fun M L v2 v3 => wlX9_findWays_33 post j9 (M, L, v2, v3) := ⟨_, rfl⟩
    have hK33 : ∀ (M : Mm) (L : Ml) (v2 : Int32) (v3 : Int32) (H : Heap) (locs : List Loc) (ls : Array Slot), K33 M L v2 v3 → zWd D cy ad A s H locs M L → lv_has ls 6 [(0, .ref (ad 42)), (2, .int v2), (3, .int v3)] → W p l e rmX9_findWays s m args below meth c H locs cells slots Q (F0 m 33 ls []) := by intro M L v2 v3 H locs ls hw; rw [hKe] at hw; exact ih M L v2 v3 H locs ls hw
    intro M L v2 v3 H locs ls hw hW hl
    have hw : wpX9_findWays_33 post K33 M L v2 v3 := by rw [hKe]; exact hw
    clear ih
    unfold wpX9_findWays_33 at hw
    refine lv_iload_n hx hb0 dX9_findWays_33 rfl (lv_at hl 2 rfl) ?_
    refine lv_iload_n hx hb0 dX9_findWays_34 rfl (lv_at hl 1 rfl) ?_
    refine lv_icmp_gt (tgt := 122) hx hb0 dX9_findWays_35 (by decide) (fun c_35 => ?_) (fun c_35 => ?_)
    · replace hw := hw.1 c_35
      exact hret _ ls _ _ M L dX9_findWays_122 hw hW
    · replace hw := hw.2 c_35
      refine lv_iconst (v := (0 : Int32)) hx hb0 dX9_findWays_38 (by decide) ?_
      refine lv_istore (lv' := [(4, .int (0 : Int32)), (0, .ref (ad 42)), (2, .int v2), (3, .int v3)]) hx hb0 dX9_findWays_39 hl (by decide) rfl (fun ls hl => ?_)
      obtain ⟨n_41, hw⟩ := hw
      exact mX9_findWays_41 X post hret K33 hK33 n_41 M L v2 v3 (0 : Int32) _ _ ls hw hW (lv_sub hl [1, 2, 3, 0] rfl)
set_option maxRecDepth 20000 in
set_option maxHeartbeats 4000000 in
theorem mX9_findWays_2 {p : Program} {l : Launch} {e : Env} {s : State} {m : MethodId} {args : Array Value} {below : List Frame} {meth : Method} {c : Code} {cells slots : Nat} {Q : State → Prop} {D : va_G} {cy : Nat → ClassId} {ad : Nat → Nat} {A : Nat → Prop} (X : zCx p rmX9_findWays s m args c cells slots cX9_findWays 6 RX9 D cy ad A) (post : Mm → Ml → Prop) (hret : zRv p l e rmX9_findWays s m args below meth c cells slots Q cX9_findWays D cy ad A post) : ∀ (j9 : Nat) (M : Mm) (L : Ml) (v1 : Int32) (v2 : Int32) (v3 : Int32) (H : Heap) (locs : List Loc) (ls : Array Slot), wlX9_findWays_2 post j9 (M, L, v1, v2, v3) → zWd D cy ad A s H locs M L → lv_has ls 6 [(0, .ref (ad 42)), (1, .int v1), (2, .int v2), (3, .int v3)] → W p l e rmX9_findWays s m args below meth c H locs cells slots Q (F0 m 2 ls []) := by
  have hx := X.1.1; have hb0 := X.1.2.1; have hts := X.1.2.2.2.2
  intro j9
  induction j9 with
  | zero => intro M L v1 v2 v3 H locs ls hw; exact hw.elim
  | succ j9 ih =>
    obtain ⟨K2, hKe⟩ : ∃ K : Mm → Ml → Int32 → Int32 → Int32 → Prop, K = fun M L v1 v2 v3 => wlX9_findWays_2 post j9 (M, L, v1, v2, v3) := ⟨_, rfl⟩
    have hK2 : ∀ (M : Mm) (L : Ml) (v1 : Int32) (v2 : Int32) (v3 : Int32) (H : Heap) (locs : List Loc) (ls : Array Slot), K2 M L v1 v2 v3 → zWd D cy ad A s H locs M L → lv_has ls 6 [(0, .ref (ad 42)), (1, .int v1), (2, .int v2), (3, .int v3)] → W p l e rmX9_findWays s m args below meth c H locs cells slots Q (F0 m 2 ls []) := by intro M L v1 v2 v3 H locs ls hw; rw [hKe] at hw; exact ih M L v1 v2 v3 H locs ls hw
    intro M L v1 v2 v3 H locs ls hw hW hl
    have hw : wpX9_findWays_2 post K2 M L v1 v2 v3 := by rw [hKe]; exact hw
    clear ih
    unfold wpX9_findWays_2 at hw
    refine lv_iload_n hx hb0 dX9_findWays_2 rfl (lv_at hl 3 rfl) ?_
    refine lv_sipush (v := (256 : Int32)) hx hb0 dX9_findWays_3 (by decide) ?_
    refine lv_icmp_ge (tgt := 31) hx hb0 dX9_findWays_6 (by decide) (fun c_6 => ?_) (fun c_6 => ?_)
    · replace hw := hw.1 c_6
      refine lv_iconst (v := (1 : Int32)) hx hb0 dX9_findWays_31 (by decide) ?_
      refine lv_istore_n (lv' := [(3, .int (1 : Int32)), (0, .ref (ad 42)), (1, .int v1), (2, .int v2)]) hx hb0 dX9_findWays_32 rfl hl (by decide) rfl (fun ls hl => ?_)
      obtain ⟨n_33, hw⟩ := hw
      exact mX9_findWays_33 X post hret n_33 M L v2 (1 : Int32) _ _ ls hw hW (lv_sub hl [1, 3, 0] rfl)
    · replace hw := hw.2 c_6
      refine lv_aload_n hx hb0 dX9_findWays_9 rfl (lv_at hl 0 rfl) ?_
      refine z_getR (k2 := 57) X hW zC7 zR_42_23 (by decide) rfl zl_X9_52 dX9_findWays_10 ?_
      refine lv_iload_n hx hb0 dX9_findWays_13 rfl (lv_at hl 3 rfl) ?_
      refine lv_iload_n hx hb0 dX9_findWays_14 rfl (lv_at hl 3 rfl) ?_
      refine lv_iload_n hx hb0 dX9_findWays_15 rfl (lv_at hl 1 rfl) ?_
      refine lv_icmp_ne (tgt := 23) hx hb0 dX9_findWays_16 (by decide) (fun c_16 => ?_) (fun c_16 => ?_)
      · replace hw := hw.1 c_16
        refine lv_lconst (v := (0 : Int64)) hx hb0 dX9_findWays_23 (by decide) ?_
        exact mX9_findWays_24 X post hret K2 hK2 M L v1 v2 v3 (0 : Int64) v3 _ _ ls hw hW (lv_sub hl [0, 1, 2, 3] rfl)
      · replace hw := hw.2 c_16
        refine lv_lconst (v := (1 : Int64)) hx hb0 dX9_findWays_19 (by decide) ?_
        refine lv_goto (tgt := 24) hx hb0 dX9_findWays_20 (by decide) ?_
        exact mX9_findWays_24 X post hret K2 hK2 M L v1 v2 v3 (1 : Int64) v3 _ _ ls hw hW (lv_sub hl [0, 1, 2, 3] rfl)
set_option maxRecDepth 20000 in
set_option maxHeartbeats 4000000 in
theorem mX9_findWays {p : Program} {l : Launch} {e : Env} {s : State} {m : MethodId} {args : Array Value} {below : List Frame} {meth : Method} {c : Code} {cells slots : Nat} {Q : State → Prop} {D : va_G} {cy : Nat → ClassId} {ad : Nat → Nat} {A : Nat → Prop} (X : zCx p rmX9_findWays s m args c cells slots cX9_findWays 6 RX9 D cy ad A) (post : Mm → Ml → Prop) (hret : zRv p l e rmX9_findWays s m args below meth c cells slots Q cX9_findWays D cy ad A post) : ∀ (M : Mm) (L : Ml) (x1 : Int32) (x2 : Int32) (H : Heap) (locs : List Loc) (ls : Array Slot), wpX9_findWays x1 x2 M L post → zWd D cy ad A s H locs M L → lv_has ls 6 [(0, .ref (ad 42)), (1, .int x1), (2, .int x2)] → W p l e rmX9_findWays s m args below meth c H locs cells slots Q (F0 m 0 ls []) := by
  have hx := X.1.1; have hb0 := X.1.2.1; have hts := X.1.2.2.2.2
  intro M L x1 x2 H locs ls hw hW hl
  unfold wpX9_findWays at hw
  refine lv_iconst (v := (0 : Int32)) hx hb0 dX9_findWays_0 (by decide) ?_
  refine lv_istore_n (lv' := [(3, .int (0 : Int32)), (0, .ref (ad 42)), (1, .int x1), (2, .int x2)]) hx hb0 dX9_findWays_1 rfl hl (by decide) rfl (fun ls hl => ?_)
  obtain ⟨n_2, hw⟩ := hw
  exact mX9_findWays_2 X post hret n_2 M L x1 x2 (0 : Int32) _ _ ls hw hW (lv_sub hl [1, 2, 3, 0] rfl)
theorem kX9_findWays (l : Launch) (D : va_G) (cy : Nat → ClassId) (ad : Nat → Nat) (hi : zInj ad) (x1 : Int32) (x2 : Int32) : zMv l yX9_findWays (.code yX9_findWays cX9_findWays 6 none :: zG) rmX9_findWays D cy ad [.ref (ad 42), .int x1, .int x2] (wpX9_findWays x1 x2) :=
  zMv_of (by decide +kernel) (Nat.le_of_ble_eq_true rfl) hi (fun X M L post _ hret ls hl hw hW => mX9_findWays X post hret M L x1 x2 _ _ ls hw hW hl)
abbrev rmX9_firstAirs : Room := { frames := 1, cells := 0, slots := 0, locals := 27 }
set_option maxRecDepth 20000 in
set_option maxHeartbeats 4000000 in
theorem mX9_firstAirs_93 {p : Program} {l : Launch} {e : Env} {s : State} {m : MethodId} {args : Array Value} {below : List Frame} {meth : Method} {c : Code} {cells slots : Nat} {Q : State → Prop} {D : va_G} {cy : Nat → ClassId} {ad : Nat → Nat} {A : Nat → Prop} (X : zCx p rmX9_firstAirs s m args c cells slots cX9_firstAirs 9 RX9 D cy ad A) (post : Int64 → Mm → Ml → Prop) (hret : zRl p l e rmX9_firstAirs s m args below meth c cells slots Q cX9_firstAirs D cy ad A post) (K8 : Mm → Ml → Int64 → Int32 → Int32 → Prop) (hK8 : ∀ (M : Mm) (L : Ml) (v3 : Int64) (v5 : Int32) (v6 : Int32) (H : Heap) (locs : List Loc) (ls : Array Slot), K8 M L v3 v5 v6 → zWd D cy ad A s H locs M L → lv_has ls 9 [(0, .ref (ad 42)), (3, .long v3), (5, .int v5), (6, .int v6)] → W p l e rmX9_firstAirs s m args below meth c H locs cells slots Q (F0 m 8 ls [])) : ∀ (M : Mm) (L : Ml) (v3 : Int64) (v6 : Int32) (s0 : Int32) (H : Heap) (locs : List Loc) (ls : Array Slot), wpX9_firstAirs_93 post K8 M L v3 v6 s0 → zWd D cy ad A s H locs M L → lv_has ls 9 [(0, .ref (ad 42)), (3, .long v3), (6, .int v6)] → W p l e rmX9_firstAirs s m args below meth c H locs cells slots Q (F0 m 93 ls [.int s0]) := by
  have hx := X.1.1; have hb0 := X.1.2.1; have hts := X.1.2.2.2.2
  intro M L v3 v6 s0 H locs ls hw hW hl
  unfold wpX9_firstAirs_93 at hw
  refine lv_istore (lv' := [(5, .int s0), (0, .ref (ad 42)), (3, .long v3), (6, .int v6)]) hx hb0 dX9_firstAirs_93 hl (by decide) rfl (fun ls hl => ?_)
  obtain ⟨a_95, e_95⟩ : ∃ y : Int32, y = v6 + (-1 : Int32) := ⟨_, rfl⟩
  replace hw := hw a_95 e_95
  refine lv_iinc (v := a_95) (lv' := [(6, .int a_95), (5, .int s0), (0, .ref (ad 42)), (3, .long v3)]) hx hb0 dX9_firstAirs_95 hl (k := 3) rfl (by rw [e_95]; rfl) (by decide) rfl (fun ls hl => ?_)
  refine lv_goto (tgt := 8) hx hb0 dX9_firstAirs_98 (by decide) ?_
  exact hK8 M L v3 s0 a_95 _ _ ls hw hW (lv_sub hl [2, 3, 1, 0] rfl)
set_option maxRecDepth 20000 in
set_option maxHeartbeats 4000000 in
theorem mX9_firstAirs_69 {p : Program} {l : Launch} {e : Env} {s : State} {m : MethodId} {args : Array Value} {below : List Frame} {meth : Method} {c : Code} {cells slots : Nat} {Q : State → Prop} {D : va_G} {cy : Nat → ClassId} {ad : Nat → Nat} {A : Nat → Prop} (X : zCx p rmX9_firstAirs s m args c cells slots cX9_firstAirs 9 RX9 D cy ad A) (post : Int64 → Mm → Ml → Prop) (hret : zRl p l e rmX9_firstAirs s m args below meth c cells slots Q cX9_firstAirs D cy ad A post) (K8 : Mm → Ml → Int64 → Int32 → Int32 → Prop) (hK8 : ∀ (M : Mm) (L : Ml) (v3 : Int64) (v5 : Int32) (v6 : Int32) (H : Heap) (locs : List Loc) (ls : Array Slot), K8 M L v3 v5 v6 → zWd D cy ad A s H locs M L → lv_has ls 9 [(0, .ref (ad 42)), (3, .long v3), (5, .int v5), (6, .int v6)] → W p l e rmX9_firstAirs s m args below meth c H locs cells slots Q (F0 m 8 ls [])) : ∀ (M : Mm) (L : Ml) (v5 : Int32) (v6 : Int32) (v7 : Int32) (v8 : Int32) (s0 : Int32) (s1 : Int64) (H : Heap) (locs : List Loc) (ls : Array Slot), wpX9_firstAirs_69 post K8 M L v5 v6 v7 v8 s0 s1 → zWd D cy ad A s H locs M L → lv_has ls 9 [(0, .ref (ad 42)), (5, .int v5), (6, .int v6), (7, .int v7), (8, .int v8)] → W p l e rmX9_firstAirs s m args below meth c H locs cells slots Q (F0 m 69 ls [.int s0, .long s1]) := by
  have hx := X.1.1; have hb0 := X.1.2.1; have hts := X.1.2.2.2.2
  intro M L v5 v6 v7 v8 s0 s1 H locs ls hw hW hl
  unfold wpX9_firstAirs_69 at hw
  refine lv_i2l hx hb0 dX9_firstAirs_69 rfl ?_
  refine lv_ladd hx hb0 dX9_firstAirs_70 ?_
  refine lv_topl (fun a_71 e_71 => ?_)
  replace hw := hw a_71 e_71
  refine lv_lstore_n (lv' := [(3, .long a_71), (0, .ref (ad 42)), (5, .int v5), (6, .int v6), (7, .int v7), (8, .int v8)]) hx hb0 dX9_firstAirs_71 rfl hl (by decide) rfl (fun ls hl => ?_)
  refine lv_iload hx hb0 dX9_firstAirs_72 (lv_at hl 5 rfl) ?_
  refine lv_if_eq (tgt := 82) hx hb0 dX9_firstAirs_74 (by decide) (fun c_74 => ?_) (fun c_74 => ?_)
  · replace hw := hw.1 c_74
    refine lv_iload hx hb0 dX9_firstAirs_82 (lv_at hl 2 rfl) ?_
    refine lv_aload_n hx hb0 dX9_firstAirs_84 rfl (lv_at hl 1 rfl) ?_
    refine z_getR (k2 := 50) X hW zC7 zR_42_8 (by decide) rfl zl_X9_31 dX9_firstAirs_85 ?_
    refine lv_iconst (v := (1 : Int32)) hx hb0 dX9_firstAirs_88 (by decide) ?_
    obtain ⟨g_89, hw⟩ := hw
    refine z_iald X hW zI_50 g_89 dX9_firstAirs_89 ?_
    refine z_Si X zc_X9_grown zt_X9_grown zl_X9_144 rfl ⟨rfl, rfl⟩ ⟨Nat.le_of_ble_eq_true rfl, Nat.le_of_ble_eq_true rfl⟩ (kX9_grown l D cy ad X.2.2.2.1 v5 (M 50 (1 : Int32).toNatClampNeg)) hW hw hl.1 rfl rfl (Nat.le_of_ble_eq_true rfl) dX9_firstAirs_90 (fun r_90 M_90 L_90 H_90 locs_90 hw hW => ?_)
    exact mX9_firstAirs_93 X post hret K8 hK8 M_90 L_90 a_71 v6 r_90 _ _ ls hw hW (lv_sub hl [1, 0, 3] rfl)
  · replace hw := hw.2 c_74
    refine lv_iload hx hb0 dX9_firstAirs_77 (lv_at hl 4 rfl) ?_
    refine lv_goto (tgt := 93) hx hb0 dX9_firstAirs_79 (by decide) ?_
    exact mX9_firstAirs_93 X post hret K8 hK8 M L a_71 v6 v7 _ _ ls hw hW (lv_sub hl [1, 0, 3] rfl)
set_option maxRecDepth 20000 in
set_option maxHeartbeats 4000000 in
theorem mX9_firstAirs_52 {p : Program} {l : Launch} {e : Env} {s : State} {m : MethodId} {args : Array Value} {below : List Frame} {meth : Method} {c : Code} {cells slots : Nat} {Q : State → Prop} {D : va_G} {cy : Nat → ClassId} {ad : Nat → Nat} {A : Nat → Prop} (X : zCx p rmX9_firstAirs s m args c cells slots cX9_firstAirs 9 RX9 D cy ad A) (post : Int64 → Mm → Ml → Prop) (hret : zRl p l e rmX9_firstAirs s m args below meth c cells slots Q cX9_firstAirs D cy ad A post) (K8 : Mm → Ml → Int64 → Int32 → Int32 → Prop) (hK8 : ∀ (M : Mm) (L : Ml) (v3 : Int64) (v5 : Int32) (v6 : Int32) (H : Heap) (locs : List Loc) (ls : Array Slot), K8 M L v3 v5 v6 → zWd D cy ad A s H locs M L → lv_has ls 9 [(0, .ref (ad 42)), (3, .long v3), (5, .int v5), (6, .int v6)] → W p l e rmX9_firstAirs s m args below meth c H locs cells slots Q (F0 m 8 ls [])) : ∀ (M : Mm) (L : Ml) (v3 : Int64) (v5 : Int32) (v6 : Int32) (v7 : Int32) (s0 : Int32) (H : Heap) (locs : List Loc) (ls : Array Slot), wpX9_firstAirs_52 post K8 M L v3 v5 v6 v7 s0 → zWd D cy ad A s H locs M L → lv_has ls 9 [(0, .ref (ad 42)), (3, .long v3), (5, .int v5), (6, .int v6), (7, .int v7)] → W p l e rmX9_firstAirs s m args below meth c H locs cells slots Q (F0 m 52 ls [.int s0]) := by
  have hx := X.1.1; have hb0 := X.1.2.1; have hts := X.1.2.2.2.2
  intro M L v3 v5 v6 v7 s0 H locs ls hw hW hl
  unfold wpX9_firstAirs_52 at hw
  refine lv_istore (lv' := [(8, .int s0), (0, .ref (ad 42)), (3, .long v3), (5, .int v5), (6, .int v6), (7, .int v7)]) hx hb0 dX9_firstAirs_52 hl (by decide) rfl (fun ls hl => ?_)
  refine lv_ldc2 (v := (10 : Int64)) hx hb0 X.1.2.2.2.1 (hts _ zk_X9_216) dX9_firstAirs_54 ?_
  refine lv_lload_n hx hb0 dX9_firstAirs_57 rfl (lv_at hl 2 rfl) ?_
  refine lv_lmul hx hb0 dX9_firstAirs_58 ?_
  refine lv_iload hx hb0 dX9_firstAirs_59 (lv_at hl 0 rfl) ?_
  refine lv_if_eq (tgt := 68) hx hb0 dX9_firstAirs_61 (by decide) (fun c_61 => ?_) (fun c_61 => ?_)
  · replace hw := hw.1 c_61
    refine lv_iconst (v := (2 : Int32)) hx hb0 dX9_firstAirs_68 (by decide) ?_
    exact mX9_firstAirs_69 X post hret K8 hK8 M L v5 v6 v7 s0 (2 : Int32) ((10 : Int64) * v3) _ _ ls hw hW (lv_sub hl [1, 3, 4, 5, 0] rfl)
  · replace hw := hw.2 c_61
    refine lv_iconst (v := (1 : Int32)) hx hb0 dX9_firstAirs_64 (by decide) ?_
    refine lv_goto (tgt := 69) hx hb0 dX9_firstAirs_65 (by decide) ?_
    exact mX9_firstAirs_69 X post hret K8 hK8 M L v5 v6 v7 s0 (1 : Int32) ((10 : Int64) * v3) _ _ ls hw hW (lv_sub hl [1, 3, 4, 5, 0] rfl)
set_option maxRecDepth 20000 in
set_option maxHeartbeats 4000000 in
theorem mX9_firstAirs_8 {p : Program} {l : Launch} {e : Env} {s : State} {m : MethodId} {args : Array Value} {below : List Frame} {meth : Method} {c : Code} {cells slots : Nat} {Q : State → Prop} {D : va_G} {cy : Nat → ClassId} {ad : Nat → Nat} {A : Nat → Prop} (X : zCx p rmX9_firstAirs s m args c cells slots cX9_firstAirs 9 RX9 D cy ad A) (post : Int64 → Mm → Ml → Prop) (hret : zRl p l e rmX9_firstAirs s m args below meth c cells slots Q cX9_firstAirs D cy ad A post) : ∀ (j9 : Nat) (M : Mm) (L : Ml) (v3 : Int64) (v5 : Int32) (v6 : Int32) (H : Heap) (locs : List Loc) (ls : Array Slot), wlX9_firstAirs_8 post j9 (M, L, v3, v5, v6) → zWd D cy ad A s H locs M L → lv_has ls 9 [(0, .ref (ad 42)), (3, .long v3), (5, .int v5), (6, .int v6)] → W p l e rmX9_firstAirs s m args below meth c H locs cells slots Q (F0 m 8 ls []) := by
  have hx := X.1.1; have hb0 := X.1.2.1; have hts := X.1.2.2.2.2
  intro j9
  induction j9 with
  | zero => intro M L v3 v5 v6 H locs ls hw; exact hw.elim
  | succ j9 ih =>
    obtain ⟨K8, hKe⟩ : ∃ K : Mm → Ml → Int64 → Int32 → Int32 → Prop, K = fun M L v3 v5 v6 => wlX9_firstAirs_8 post j9 (M, L, v3, v5, v6) := ⟨_, rfl⟩
    have hK8 : ∀ (M : Mm) (L : Ml) (v3 : Int64) (v5 : Int32) (v6 : Int32) (H : Heap) (locs : List Loc) (ls : Array Slot), K8 M L v3 v5 v6 → zWd D cy ad A s H locs M L → lv_has ls 9 [(0, .ref (ad 42)), (3, .long v3), (5, .int v5), (6, .int v6)] → W p l e rmX9_firstAirs s m args below meth c H locs cells slots Q (F0 m 8 ls []) := by intro M L v3 v5 v6 H locs ls hw; rw [hKe] at hw; exact ih M L v3 v5 v6 H locs ls hw
    intro M L v3 v5 v6 H locs ls hw hW hl
    have hw : wpX9_firstAirs_8 post K8 M L v3 v5 v6 := by rw [hKe]; exact hw
    clear ih
    unfold wpX9_firstAirs_8 at hw
    refine lv_iload hx hb0 dX9_firstAirs_8 (lv_at hl 3 rfl) ?_
    refine lv_if_le (tgt := 101) hx hb0 dX9_firstAirs_10 (by decide) (fun c_10 => ?_) (fun c_10 => ?_)
    · replace hw := hw.1 c_10
      refine lv_lload_n hx hb0 dX9_firstAirs_101 rfl (lv_at hl 1 rfl) ?_
      exact hret _ ls _ _ v3 M L dX9_firstAirs_102 hw hW
    · replace hw := hw.2 c_10
      refine lv_iload hx hb0 dX9_firstAirs_13 (lv_at hl 2 rfl) ?_
      refine lv_aload_n hx hb0 dX9_firstAirs_15 rfl (lv_at hl 0 rfl) ?_
      refine z_getR (k2 := 50) X hW zC7 zR_42_8 (by decide) rfl zl_X9_31 dX9_firstAirs_16 ?_
      refine lv_iconst (v := (0 : Int32)) hx hb0 dX9_firstAirs_19 (by decide) ?_
      obtain ⟨g_20, hw⟩ := hw
      refine z_iald X hW zI_50 g_20 dX9_firstAirs_20 ?_
      refine z_Si X zc_X9_grown zt_X9_grown zl_X9_144 rfl ⟨rfl, rfl⟩ ⟨Nat.le_of_ble_eq_true rfl, Nat.le_of_ble_eq_true rfl⟩ (kX9_grown l D cy ad X.2.2.2.1 v5 (M 50 (0 : Int32).toNatClampNeg)) hW hw hl.1 rfl rfl (Nat.le_of_ble_eq_true rfl) dX9_firstAirs_21 (fun r_21 M_21 L_21 H_21 locs_21 hw hW => ?_)
      refine lv_istore (lv' := [(7, .int r_21), (0, .ref (ad 42)), (3, .long v3), (5, .int v5), (6, .int v6)]) hx hb0 dX9_firstAirs_24 hl (by decide) rfl (fun ls hl => ?_)
      refine lv_aload_n hx hb0 dX9_firstAirs_26 rfl (lv_at hl 1 rfl) ?_
      refine z_getR (k2 := 57) X hW zC7 zR_42_23 (by decide) rfl zl_X9_52 dX9_firstAirs_27 ?_
      refine lv_sipush (v := (256 : Int32)) hx hb0 dX9_firstAirs_30 (by decide) ?_
      refine lv_iload hx hb0 dX9_firstAirs_33 (lv_at hl 4 rfl) ?_
      refine lv_iconst (v := (1 : Int32)) hx hb0 dX9_firstAirs_35 (by decide) ?_
      refine lv_isub hx hb0 dX9_firstAirs_36 ?_
      refine lv_imul hx hb0 dX9_firstAirs_37 ?_
      refine lv_iload hx hb0 dX9_firstAirs_38 (lv_at hl 0 rfl) ?_
      refine lv_iadd hx hb0 dX9_firstAirs_40 ?_
      obtain ⟨g_41, hw⟩ := hw
      refine z_lald X hW zI_57 g_41 dX9_firstAirs_41 ?_
      refine lv_lconst (v := (0 : Int64)) hx hb0 dX9_firstAirs_42 (by decide) ?_
      refine W.lcmp hx hb0 dX9_firstAirs_43 ?_
      refine lv_if_le (tgt := 51) hx hb0 dX9_firstAirs_44 (by decide) (fun c_44 => ?_) (fun c_44 => ?_)
      · replace hw := hw.1 c_44
        refine lv_iconst (v := (0 : Int32)) hx hb0 dX9_firstAirs_51 (by decide) ?_
        exact mX9_firstAirs_52 X post hret K8 hK8 M_21 L_21 v3 v5 v6 r_21 (0 : Int32) _ _ ls hw hW (lv_sub hl [1, 2, 3, 4, 0] rfl)
      · replace hw := hw.2 c_44
        refine lv_iconst (v := (1 : Int32)) hx hb0 dX9_firstAirs_47 (by decide) ?_
        refine lv_goto (tgt := 52) hx hb0 dX9_firstAirs_48 (by decide) ?_
        exact mX9_firstAirs_52 X post hret K8 hK8 M_21 L_21 v3 v5 v6 r_21 (1 : Int32) _ _ ls hw hW (lv_sub hl [1, 2, 3, 4, 0] rfl)
set_option maxRecDepth 20000 in
set_option maxHeartbeats 4000000 in
theorem mX9_firstAirs {p : Program} {l : Launch} {e : Env} {s : State} {m : MethodId} {args : Array Value} {below : List Frame} {meth : Method} {c : Code} {cells slots : Nat} {Q : State → Prop} {D : va_G} {cy : Nat → ClassId} {ad : Nat → Nat} {A : Nat → Prop} (X : zCx p rmX9_firstAirs s m args c cells slots cX9_firstAirs 9 RX9 D cy ad A) (post : Int64 → Mm → Ml → Prop) (hret : zRl p l e rmX9_firstAirs s m args below meth c cells slots Q cX9_firstAirs D cy ad A post) : ∀ (M : Mm) (L : Ml) (x1 : Int32) (x2 : Int32) (H : Heap) (locs : List Loc) (ls : Array Slot), wpX9_firstAirs x1 x2 M L post → zWd D cy ad A s H locs M L → lv_has ls 9 [(0, .ref (ad 42)), (1, .int x1), (2, .int x2)] → W p l e rmX9_firstAirs s m args below meth c H locs cells slots Q (F0 m 0 ls []) := by
  have hx := X.1.1; have hb0 := X.1.2.1; have hts := X.1.2.2.2.2
  intro M L x1 x2 H locs ls hw hW hl
  unfold wpX9_firstAirs at hw
  refine lv_lconst (v := (0 : Int64)) hx hb0 dX9_firstAirs_0 (by decide) ?_
  refine lv_lstore_n (lv' := [(3, .long (0 : Int64)), (0, .ref (ad 42)), (1, .int x1), (2, .int x2)]) hx hb0 dX9_firstAirs_1 rfl hl (by decide) rfl (fun ls hl => ?_)
  refine lv_iload_n hx hb0 dX9_firstAirs_2 rfl (lv_at hl 2 rfl) ?_
  refine lv_istore (lv' := [(5, .int x1), (3, .long (0 : Int64)), (0, .ref (ad 42)), (1, .int x1), (2, .int x2)]) hx hb0 dX9_firstAirs_3 hl (by decide) rfl (fun ls hl => ?_)
  refine lv_iload_n hx hb0 dX9_firstAirs_5 rfl (lv_at hl 4 rfl) ?_
  refine lv_istore (lv' := [(6, .int x2), (5, .int x1), (3, .long (0 : Int64)), (0, .ref (ad 42)), (1, .int x1), (2, .int x2)]) hx hb0 dX9_firstAirs_6 hl (by decide) rfl (fun ls hl => ?_)
  obtain ⟨n_8, hw⟩ := hw
  exact mX9_firstAirs_8 X post hret n_8 M L (0 : Int64) x1 x2 _ _ ls hw hW (lv_sub hl [3, 2, 1, 0] rfl)
theorem kX9_firstAirs (l : Launch) (D : va_G) (cy : Nat → ClassId) (ad : Nat → Nat) (hi : zInj ad) (x1 : Int32) (x2 : Int32) : zMl l yX9_firstAirs (.code yX9_firstAirs cX9_firstAirs 9 (some .long) :: zG) rmX9_firstAirs D cy ad [.ref (ad 42), .int x1, .int x2] (wpX9_firstAirs x1 x2) :=
  zMl_of (by decide +kernel) (Nat.le_of_ble_eq_true rfl) hi (fun X M L post _ hret ls hl hw hW => mX9_firstAirs X post hret M L x1 x2 _ _ ls hw hW hl)
abbrev rmX9_grew : Room := { frames := 2, cells := 0, slots := 0, locals := 55 }
set_option maxRecDepth 20000 in
set_option maxHeartbeats 4000000 in
theorem mX9_grew_37 {p : Program} {l : Launch} {e : Env} {s : State} {m : MethodId} {args : Array Value} {below : List Frame} {meth : Method} {c : Code} {cells slots : Nat} {Q : State → Prop} {D : va_G} {cy : Nat → ClassId} {ad : Nat → Nat} {A : Nat → Prop} (X : zCx p rmX9_grew s m args c cells slots cX9_grew 7 RX9 D cy ad A) (post : Int64 → Mm → Ml → Prop) (hret : zRl p l e rmX9_grew s m args below meth c cells slots Q cX9_grew D cy ad A post) : ∀ (M : Mm) (L : Ml) (H : Heap) (locs : List Loc) (ls : Array Slot), wpX9_grew_37 post M L → zWd D cy ad A s H locs M L → lv_has ls 7 [] → W p l e rmX9_grew s m args below meth c H locs cells slots Q (F0 m 37 ls []) := by
  have hx := X.1.1; have hb0 := X.1.2.1; have hts := X.1.2.2.2.2
  intro M L H locs ls hw hW hl
  unfold wpX9_grew_37 at hw
  refine lv_ldc2 (v := (-2 : Int64)) hx hb0 X.1.2.2.2.1 (hts _ zk_X9_218) dX9_grew_37 ?_
  exact hret _ ls _ _ (-2 : Int64) M L dX9_grew_40 hw hW
set_option maxRecDepth 20000 in
set_option maxHeartbeats 4000000 in
theorem mX9_grew_90 {p : Program} {l : Launch} {e : Env} {s : State} {m : MethodId} {args : Array Value} {below : List Frame} {meth : Method} {c : Code} {cells slots : Nat} {Q : State → Prop} {D : va_G} {cy : Nat → ClassId} {ad : Nat → Nat} {A : Nat → Prop} (X : zCx p rmX9_grew s m args c cells slots cX9_grew 7 RX9 D cy ad A) (post : Int64 → Mm → Ml → Prop) (hret : zRl p l e rmX9_grew s m args below meth c cells slots Q cX9_grew D cy ad A post) : ∀ (M : Mm) (L : Ml) (s0 : Int64) (H : Heap) (locs : List Loc) (ls : Array Slot), wpX9_grew_90 post M L s0 → zWd D cy ad A s H locs M L → lv_has ls 7 [] → W p l e rmX9_grew s m args below meth c H locs cells slots Q (F0 m 90 ls [.long s0]) := by
  have hx := X.1.1; have hb0 := X.1.2.1; have hts := X.1.2.2.2.2
  intro M L s0 H locs ls hw hW hl
  unfold wpX9_grew_90 at hw
  exact hret _ ls _ _ s0 M L dX9_grew_90 hw hW
set_option maxRecDepth 20000 in
set_option maxHeartbeats 4000000 in
theorem mX9_grew {p : Program} {l : Launch} {e : Env} {s : State} {m : MethodId} {args : Array Value} {below : List Frame} {meth : Method} {c : Code} {cells slots : Nat} {Q : State → Prop} {D : va_G} {cy : Nat → ClassId} {ad : Nat → Nat} {A : Nat → Prop} (X : zCx p rmX9_grew s m args c cells slots cX9_grew 7 RX9 D cy ad A) (post : Int64 → Mm → Ml → Prop) (hret : zRl p l e rmX9_grew s m args below meth c cells slots Q cX9_grew D cy ad A post) : ∀ (M : Mm) (L : Ml) (x1 : Int32) (x2 : Int32) (x3 : Int32) (x4 : Int32) (H : Heap) (locs : List Loc) (ls : Array Slot), wpX9_grew x1 x2 x3 x4 M L post → zWd D cy ad A s H locs M L → lv_has ls 7 [(0, .ref (ad 42)), (1, .int x1), (2, .int x2), (3, .int x3), (4, .int x4)] → W p l e rmX9_grew s m args below meth c H locs cells slots Q (F0 m 0 ls []) := by
  have hx := X.1.1; have hb0 := X.1.2.1; have hts := X.1.2.2.2.2
  intro M L x1 x2 x3 x4 H locs ls hw hW hl
  unfold wpX9_grew at hw
  refine lv_iload_n hx hb0 dX9_grew_0 rfl (lv_at hl 1 rfl) ?_
  refine z_Si X zc_X9_isArm zt_X9_isArm zl_X9_102 rfl ⟨rfl, rfl⟩ ⟨Nat.le_of_ble_eq_true rfl, Nat.le_of_ble_eq_true rfl⟩ (kX9_isArm l D cy ad X.2.2.2.1 x1) hW hw hl.1 rfl rfl (Nat.le_of_ble_eq_true rfl) dX9_grew_1 (fun r_1 M_1 L_1 H_1 locs_1 hw hW => ?_)
  refine lv_if_eq (tgt := 37) hx hb0 dX9_grew_4 (by decide) (fun c_4 => ?_) (fun c_4 => ?_)
  · replace hw := hw.1 c_4
    exact mX9_grew_37 X post hret M_1 L_1 _ _ ls hw hW (lv_sub hl [] rfl)
  · replace hw := hw.2 c_4
    refine lv_iload_n hx hb0 dX9_grew_7 rfl (lv_at hl 2 rfl) ?_
    refine z_Si X zc_X9_isArm zt_X9_isArm zl_X9_102 rfl ⟨rfl, rfl⟩ ⟨Nat.le_of_ble_eq_true rfl, Nat.le_of_ble_eq_true rfl⟩ (kX9_isArm l D cy ad X.2.2.2.1 x2) hW hw hl.1 rfl rfl (Nat.le_of_ble_eq_true rfl) dX9_grew_8 (fun r_8 M_8 L_8 H_8 locs_8 hw hW => ?_)
    refine lv_if_eq (tgt := 37) hx hb0 dX9_grew_11 (by decide) (fun c_11 => ?_) (fun c_11 => ?_)
    · replace hw := hw.1 c_11
      exact mX9_grew_37 X post hret M_8 L_8 _ _ ls hw hW (lv_sub hl [] rfl)
    · replace hw := hw.2 c_11
      refine lv_iload_n hx hb0 dX9_grew_14 rfl (lv_at hl 3 rfl) ?_
      refine lv_i2l hx hb0 dX9_grew_15 rfl ?_
      refine lv_lconst (v := (0 : Int64)) hx hb0 dX9_grew_16 (by decide) ?_
      refine lv_ldc2 (v := (10 : Int64)) hx hb0 X.1.2.2.2.1 (hts _ zk_X9_216) dX9_grew_17 ?_
      refine z_Si X zc_X9_in zt_X9_in zl_X9_86 rfl ⟨rfl, rfl⟩ ⟨Nat.le_of_ble_eq_true rfl, Nat.le_of_ble_eq_true rfl⟩ (kX9_in l D cy ad X.2.2.2.1 (x3.toInt64) (0 : Int64) (10 : Int64)) hW hw hl.1 rfl rfl (Nat.le_of_ble_eq_true rfl) dX9_grew_20 (fun r_20 M_20 L_20 H_20 locs_20 hw hW => ?_)
      refine lv_if_eq (tgt := 37) hx hb0 dX9_grew_23 (by decide) (fun c_23 => ?_) (fun c_23 => ?_)
      · replace hw := hw.1 c_23
        exact mX9_grew_37 X post hret M_20 L_20 _ _ ls hw hW (lv_sub hl [] rfl)
      · replace hw := hw.2 c_23
        refine lv_iload hx hb0 dX9_grew_26 (lv_at hl 4 rfl) ?_
        refine lv_i2l hx hb0 dX9_grew_28 rfl ?_
        refine lv_lconst (v := (0 : Int64)) hx hb0 dX9_grew_29 (by decide) ?_
        refine lv_lconst (v := (1 : Int64)) hx hb0 dX9_grew_30 (by decide) ?_
        refine z_Si X zc_X9_in zt_X9_in zl_X9_86 rfl ⟨rfl, rfl⟩ ⟨Nat.le_of_ble_eq_true rfl, Nat.le_of_ble_eq_true rfl⟩ (kX9_in l D cy ad X.2.2.2.1 (x4.toInt64) (0 : Int64) (1 : Int64)) hW hw hl.1 rfl rfl (Nat.le_of_ble_eq_true rfl) dX9_grew_31 (fun r_31 M_31 L_31 H_31 locs_31 hw hW => ?_)
        refine lv_if_ne (tgt := 41) hx hb0 dX9_grew_34 (by decide) (fun c_34 => ?_) (fun c_34 => ?_)
        · replace hw := hw.1 c_34
          refine lv_aload_n hx hb0 dX9_grew_41 rfl (lv_at hl 0 rfl) ?_
          refine lv_iload_n hx hb0 dX9_grew_42 rfl (lv_at hl 2 rfl) ?_
          refine lv_iload_n hx hb0 dX9_grew_43 rfl (lv_at hl 3 rfl) ?_
          refine z_Vv X zO_42 zC7 zc_X9_findWays zs_X9_findWays zl_X9_220 rfl ⟨rfl, rfl⟩ ⟨Nat.le_of_ble_eq_true rfl, Nat.le_of_ble_eq_true rfl⟩ (kX9_findWays l D cy ad X.2.2.2.1 x2 x3) hW hw hl.1 rfl rfl (Nat.le_of_ble_eq_true rfl) dX9_grew_44 (fun M_44 L_44 H_44 locs_44 hw hW => ?_)
          refine lv_aload_n hx hb0 dX9_grew_47 rfl (lv_at hl 0 rfl) ?_
          refine z_getR (k2 := 57) X hW zC7 zR_42_23 (by decide) rfl zl_X9_52 dX9_grew_48 ?_
          refine lv_sipush (v := (256 : Int32)) hx hb0 dX9_grew_51 (by decide) ?_
          refine lv_iload_n hx hb0 dX9_grew_54 rfl (lv_at hl 3 rfl) ?_
          refine lv_imul hx hb0 dX9_grew_55 ?_
          refine lv_iload_n hx hb0 dX9_grew_56 rfl (lv_at hl 1 rfl) ?_
          refine lv_iadd hx hb0 dX9_grew_57 ?_
          obtain ⟨g_58, hw⟩ := hw
          refine z_lald X hW zI_57 g_58 dX9_grew_58 ?_
          refine lv_topl (fun a_59 e_59 => ?_)
          replace hw := hw a_59 e_59
          refine lv_lstore (lv' := [(5, .long a_59), (0, .ref (ad 42)), (1, .int x1), (2, .int x2), (3, .int x3), (4, .int x4)]) hx hb0 dX9_grew_59 hl (by decide) rfl (fun ls hl => ?_)
          refine lv_iload hx hb0 dX9_grew_61 (lv_at hl 5 rfl) ?_
          refine lv_if_ne (tgt := 71) hx hb0 dX9_grew_63 (by decide) (fun c_63 => ?_) (fun c_63 => ?_)
          · replace hw := hw.1 c_63
            refine lv_lload hx hb0 dX9_grew_71 (lv_at hl 0 rfl) ?_
            refine lv_lconst (v := (0 : Int64)) hx hb0 dX9_grew_73 (by decide) ?_
            refine W.lcmp hx hb0 dX9_grew_74 ?_
            refine lv_if_ne (tgt := 84) hx hb0 dX9_grew_75 (by decide) (fun c_75 => ?_) (fun c_75 => ?_)
            · replace hw := hw.1 c_75
              refine lv_aload_n hx hb0 dX9_grew_84 rfl (lv_at hl 1 rfl) ?_
              refine lv_iload_n hx hb0 dX9_grew_85 rfl (lv_at hl 2 rfl) ?_
              refine lv_iload_n hx hb0 dX9_grew_86 rfl (lv_at hl 4 rfl) ?_
              refine z_Vl X zO_42 zC7 zc_X9_firstAirs zs_X9_firstAirs zl_X9_225 rfl ⟨rfl, rfl⟩ ⟨Nat.le_of_ble_eq_true rfl, Nat.le_of_ble_eq_true rfl⟩ (kX9_firstAirs l D cy ad X.2.2.2.1 x1 x3) hW hw hl.1 rfl rfl (Nat.le_of_ble_eq_true rfl) dX9_grew_87 (fun r_87 M_87 L_87 H_87 locs_87 hw hW => ?_)
              exact mX9_grew_90 X post hret M_87 L_87 r_87 _ _ ls hw hW (lv_sub hl [] rfl)
            · replace hw := hw.2 c_75
              refine lv_ldc2 (v := (-6 : Int64)) hx hb0 X.1.2.2.2.1 (hts _ zk_X9_223) dX9_grew_78 ?_
              refine lv_goto (tgt := 90) hx hb0 dX9_grew_81 (by decide) ?_
              exact mX9_grew_90 X post hret M_44 L_44 (-6 : Int64) _ _ ls hw hW (lv_sub hl [] rfl)
          · replace hw := hw.2 c_63
            refine lv_lload hx hb0 dX9_grew_66 (lv_at hl 0 rfl) ?_
            refine lv_goto (tgt := 90) hx hb0 dX9_grew_68 (by decide) ?_
            exact mX9_grew_90 X post hret M_44 L_44 a_59 _ _ ls hw hW (lv_sub hl [] rfl)
        · replace hw := hw.2 c_34
          exact mX9_grew_37 X post hret M_31 L_31 _ _ ls hw hW (lv_sub hl [] rfl)
theorem kX9_grew (l : Launch) (D : va_G) (cy : Nat → ClassId) (ad : Nat → Nat) (hi : zInj ad) (x1 : Int32) (x2 : Int32) (x3 : Int32) (x4 : Int32) : zMl l yX9_grew (.code yX9_grew cX9_grew 7 (some .long) :: zG) rmX9_grew D cy ad [.ref (ad 42), .int x1, .int x2, .int x3, .int x4] (wpX9_grew x1 x2 x3 x4) :=
  zMl_of (by decide +kernel) (Nat.le_of_ble_eq_true rfl) hi (fun X M L post _ hret ls hl hw hW => mX9_grew X post hret M L x1 x2 x3 x4 _ _ ls hw hW hl)
abbrev rmX9_findOff : Room := { frames := 1, cells := 0, slots := 0, locals := 27 }
set_option maxRecDepth 20000 in
set_option maxHeartbeats 4000000 in
theorem mX9_findOff_102 {p : Program} {l : Launch} {e : Env} {s : State} {m : MethodId} {args : Array Value} {below : List Frame} {meth : Method} {c : Code} {cells slots : Nat} {Q : State → Prop} {D : va_G} {cy : Nat → ClassId} {ad : Nat → Nat} {A : Nat → Prop} (X : zCx p rmX9_findOff s m args c cells slots cX9_findOff 5 RX9 D cy ad A) (post : Int32 → Mm → Ml → Prop) (hret : zRi p l e rmX9_findOff s m args below meth c cells slots Q cX9_findOff D cy ad A .boolean post) (K4 : Mm → Ml → Int32 → Int32 → Int32 → Prop) (hK4 : ∀ (M : Mm) (L : Ml) (v1 : Int32) (v2 : Int32) (v3 : Int32) (H : Heap) (locs : List Loc) (ls : Array Slot), K4 M L v1 v2 v3 → zWd D cy ad A s H locs M L → lv_has ls 5 [(0, .ref (ad 42)), (1, .int v1), (2, .int v2), (3, .int v3)] → W p l e rmX9_findOff s m args below meth c H locs cells slots Q (F0 m 4 ls [])) : ∀ (M : Mm) (L : Ml) (v1 : Int32) (v3 : Int32) (s0 : Int32) (H : Heap) (locs : List Loc) (ls : Array Slot), wpX9_findOff_102 post K4 M L v1 v3 s0 → zWd D cy ad A s H locs M L → lv_has ls 5 [(0, .ref (ad 42)), (1, .int v1), (3, .int v3)] → W p l e rmX9_findOff s m args below meth c H locs cells slots Q (F0 m 102 ls [.int s0]) := by
  have hx := X.1.1; have hb0 := X.1.2.1; have hts := X.1.2.2.2.2
  intro M L v1 v3 s0 H locs ls hw hW hl
  unfold wpX9_findOff_102 at hw
  refine lv_istore_n (lv' := [(2, .int s0), (0, .ref (ad 42)), (1, .int v1), (3, .int v3)]) hx hb0 dX9_findOff_102 rfl hl (by decide) rfl (fun ls hl => ?_)
  obtain ⟨a_103, e_103⟩ : ∃ y : Int32, y = v3 + (1 : Int32) := ⟨_, rfl⟩
  replace hw := hw a_103 e_103
  refine lv_iinc (v := a_103) (lv' := [(3, .int a_103), (2, .int s0), (0, .ref (ad 42)), (1, .int v1)]) hx hb0 dX9_findOff_103 hl (k := 3) rfl (by rw [e_103]; rfl) (by decide) rfl (fun ls hl => ?_)
  refine lv_goto (tgt := 4) hx hb0 dX9_findOff_106 (by decide) ?_
  exact hK4 M L v1 s0 a_103 _ _ ls hw hW (lv_sub hl [2, 3, 1, 0] rfl)
set_option maxRecDepth 20000 in
set_option maxHeartbeats 4000000 in
theorem mX9_findOff_97 {p : Program} {l : Launch} {e : Env} {s : State} {m : MethodId} {args : Array Value} {below : List Frame} {meth : Method} {c : Code} {cells slots : Nat} {Q : State → Prop} {D : va_G} {cy : Nat → ClassId} {ad : Nat → Nat} {A : Nat → Prop} (X : zCx p rmX9_findOff s m args c cells slots cX9_findOff 5 RX9 D cy ad A) (post : Int32 → Mm → Ml → Prop) (hret : zRi p l e rmX9_findOff s m args below meth c cells slots Q cX9_findOff D cy ad A .boolean post) (K4 : Mm → Ml → Int32 → Int32 → Int32 → Prop) (hK4 : ∀ (M : Mm) (L : Ml) (v1 : Int32) (v2 : Int32) (v3 : Int32) (H : Heap) (locs : List Loc) (ls : Array Slot), K4 M L v1 v2 v3 → zWd D cy ad A s H locs M L → lv_has ls 5 [(0, .ref (ad 42)), (1, .int v1), (2, .int v2), (3, .int v3)] → W p l e rmX9_findOff s m args below meth c H locs cells slots Q (F0 m 4 ls [])) : ∀ (M : Mm) (L : Ml) (v1 : Int32) (v3 : Int32) (H : Heap) (locs : List Loc) (ls : Array Slot), wpX9_findOff_97 post K4 M L v1 v3 → zWd D cy ad A s H locs M L → lv_has ls 5 [(0, .ref (ad 42)), (1, .int v1), (3, .int v3)] → W p l e rmX9_findOff s m args below meth c H locs cells slots Q (F0 m 97 ls []) := by
  have hx := X.1.1; have hb0 := X.1.2.1; have hts := X.1.2.2.2.2
  intro M L v1 v3 H locs ls hw hW hl
  unfold wpX9_findOff_97 at hw
  refine lv_iconst (v := (1 : Int32)) hx hb0 dX9_findOff_97 (by decide) ?_
  refine lv_goto (tgt := 102) hx hb0 dX9_findOff_98 (by decide) ?_
  exact mX9_findOff_102 X post hret K4 hK4 M L v1 v3 (1 : Int32) _ _ ls hw hW (lv_sub hl [0, 1, 2] rfl)
set_option maxRecDepth 20000 in
set_option maxHeartbeats 4000000 in
theorem mX9_findOff_87 {p : Program} {l : Launch} {e : Env} {s : State} {m : MethodId} {args : Array Value} {below : List Frame} {meth : Method} {c : Code} {cells slots : Nat} {Q : State → Prop} {D : va_G} {cy : Nat → ClassId} {ad : Nat → Nat} {A : Nat → Prop} (X : zCx p rmX9_findOff s m args c cells slots cX9_findOff 5 RX9 D cy ad A) (post : Int32 → Mm → Ml → Prop) (hret : zRi p l e rmX9_findOff s m args below meth c cells slots Q cX9_findOff D cy ad A .boolean post) (K4 : Mm → Ml → Int32 → Int32 → Int32 → Prop) (hK4 : ∀ (M : Mm) (L : Ml) (v1 : Int32) (v2 : Int32) (v3 : Int32) (H : Heap) (locs : List Loc) (ls : Array Slot), K4 M L v1 v2 v3 → zWd D cy ad A s H locs M L → lv_has ls 5 [(0, .ref (ad 42)), (1, .int v1), (2, .int v2), (3, .int v3)] → W p l e rmX9_findOff s m args below meth c H locs cells slots Q (F0 m 4 ls [])) : ∀ (M : Mm) (L : Ml) (v1 : Int32) (v2 : Int32) (v3 : Int32) (v4 : Int32) (s0 : Int32) (s1 : Int32) (H : Heap) (locs : List Loc) (ls : Array Slot), wpX9_findOff_87 post K4 M L v1 v2 v3 v4 s0 s1 → zWd D cy ad A s H locs M L → lv_has ls 5 [(0, .ref (ad 42)), (1, .int v1), (2, .int v2), (3, .int v3), (4, .int v4)] → W p l e rmX9_findOff s m args below meth c H locs cells slots Q (F0 m 87 ls [.int s0, .int s1, .ref (ad 58)]) := by
  have hx := X.1.1; have hb0 := X.1.2.1; have hts := X.1.2.2.2.2
  intro M L v1 v2 v3 v4 s0 s1 H locs ls hw hW hl
  unfold wpX9_findOff_87 at hw
  obtain ⟨g_87, hw⟩ := hw
  refine z_iast X hW zI_58 g_87 dX9_findOff_87 (fun M_87 H_87 locs_87 e_87 hW => ?_)
  replace hw := hw M_87 e_87
  refine lv_iload_n hx hb0 dX9_findOff_88 rfl (lv_at hl 2 rfl) ?_
  refine lv_if_ne (tgt := 97) hx hb0 dX9_findOff_89 (by decide) (fun c_89 => ?_) (fun c_89 => ?_)
  · replace hw := hw.1 c_89
    exact mX9_findOff_97 X post hret K4 hK4 M_87 L v1 v3 _ _ ls hw hW (lv_sub hl [0, 1, 3] rfl)
  · replace hw := hw.2 c_89
    refine lv_iload hx hb0 dX9_findOff_92 (lv_at hl 4 rfl) ?_
    refine lv_if_eq (tgt := 101) hx hb0 dX9_findOff_94 (by decide) (fun c_94 => ?_) (fun c_94 => ?_)
    · replace hw := hw.1 c_94
      refine lv_iconst (v := (0 : Int32)) hx hb0 dX9_findOff_101 (by decide) ?_
      exact mX9_findOff_102 X post hret K4 hK4 M_87 L v1 v3 (0 : Int32) _ _ ls hw hW (lv_sub hl [0, 1, 3] rfl)
    · replace hw := hw.2 c_94
      exact mX9_findOff_97 X post hret K4 hK4 M_87 L v1 v3 _ _ ls hw hW (lv_sub hl [0, 1, 3] rfl)
set_option maxRecDepth 20000 in
set_option maxHeartbeats 4000000 in
theorem mX9_findOff_63 {p : Program} {l : Launch} {e : Env} {s : State} {m : MethodId} {args : Array Value} {below : List Frame} {meth : Method} {c : Code} {cells slots : Nat} {Q : State → Prop} {D : va_G} {cy : Nat → ClassId} {ad : Nat → Nat} {A : Nat → Prop} (X : zCx p rmX9_findOff s m args c cells slots cX9_findOff 5 RX9 D cy ad A) (post : Int32 → Mm → Ml → Prop) (hret : zRi p l e rmX9_findOff s m args below meth c cells slots Q cX9_findOff D cy ad A .boolean post) (K4 : Mm → Ml → Int32 → Int32 → Int32 → Prop) (hK4 : ∀ (M : Mm) (L : Ml) (v1 : Int32) (v2 : Int32) (v3 : Int32) (H : Heap) (locs : List Loc) (ls : Array Slot), K4 M L v1 v2 v3 → zWd D cy ad A s H locs M L → lv_has ls 5 [(0, .ref (ad 42)), (1, .int v1), (2, .int v2), (3, .int v3)] → W p l e rmX9_findOff s m args below meth c H locs cells slots Q (F0 m 4 ls [])) : ∀ (M : Mm) (L : Ml) (v1 : Int32) (v2 : Int32) (v3 : Int32) (s0 : Int32) (H : Heap) (locs : List Loc) (ls : Array Slot), wpX9_findOff_63 post K4 M L v1 v2 v3 s0 → zWd D cy ad A s H locs M L → lv_has ls 5 [(0, .ref (ad 42)), (1, .int v1), (2, .int v2), (3, .int v3)] → W p l e rmX9_findOff s m args below meth c H locs cells slots Q (F0 m 63 ls [.int s0]) := by
  have hx := X.1.1; have hb0 := X.1.2.1; have hts := X.1.2.2.2.2
  intro M L v1 v2 v3 s0 H locs ls hw hW hl
  unfold wpX9_findOff_63 at hw
  refine lv_istore (lv' := [(4, .int s0), (0, .ref (ad 42)), (1, .int v1), (2, .int v2), (3, .int v3)]) hx hb0 dX9_findOff_63 hl (by decide) rfl (fun ls hl => ?_)
  refine lv_aload_n hx hb0 dX9_findOff_65 rfl (lv_at hl 1 rfl) ?_
  refine z_getR (k2 := 58) X hW zC7 zR_42_24 (by decide) rfl zl_X9_56 dX9_findOff_66 ?_
  refine lv_iload_n hx hb0 dX9_findOff_69 rfl (lv_at hl 4 rfl) ?_
  refine lv_iload hx hb0 dX9_findOff_70 (lv_at hl 0 rfl) ?_
  refine lv_if_eq (tgt := 81) hx hb0 dX9_findOff_72 (by decide) (fun c_72 => ?_) (fun c_72 => ?_)
  · replace hw := hw.1 c_72
    refine lv_aload_n hx hb0 dX9_findOff_81 rfl (lv_at hl 1 rfl) ?_
    refine z_getR (k2 := 58) X hW zC7 zR_42_24 (by decide) rfl zl_X9_56 dX9_findOff_82 ?_
    refine lv_iload_n hx hb0 dX9_findOff_85 rfl (lv_at hl 4 rfl) ?_
    obtain ⟨g_86, hw⟩ := hw
    refine z_iald X hW zI_58 g_86 dX9_findOff_86 ?_
    exact mX9_findOff_87 X post hret K4 hK4 M L v1 v2 v3 s0 (M 58 v3.toNatClampNeg) v3 _ _ ls hw hW (lv_sub hl [1, 2, 3, 4, 0] rfl)
  · replace hw := hw.2 c_72
    refine lv_iload_n hx hb0 dX9_findOff_75 rfl (lv_at hl 2 rfl) ?_
    refine lv_iconst (v := (1 : Int32)) hx hb0 dX9_findOff_76 (by decide) ?_
    refine lv_iadd hx hb0 dX9_findOff_77 ?_
    refine lv_goto (tgt := 87) hx hb0 dX9_findOff_78 (by decide) ?_
    exact mX9_findOff_87 X post hret K4 hK4 M L v1 v2 v3 s0 (v1 + (1 : Int32)) v3 _ _ ls hw hW (lv_sub hl [1, 2, 3, 4, 0] rfl)
set_option maxRecDepth 20000 in
set_option maxHeartbeats 4000000 in
theorem mX9_findOff_58 {p : Program} {l : Launch} {e : Env} {s : State} {m : MethodId} {args : Array Value} {below : List Frame} {meth : Method} {c : Code} {cells slots : Nat} {Q : State → Prop} {D : va_G} {cy : Nat → ClassId} {ad : Nat → Nat} {A : Nat → Prop} (X : zCx p rmX9_findOff s m args c cells slots cX9_findOff 5 RX9 D cy ad A) (post : Int32 → Mm → Ml → Prop) (hret : zRi p l e rmX9_findOff s m args below meth c cells slots Q cX9_findOff D cy ad A .boolean post) (K4 : Mm → Ml → Int32 → Int32 → Int32 → Prop) (hK4 : ∀ (M : Mm) (L : Ml) (v1 : Int32) (v2 : Int32) (v3 : Int32) (H : Heap) (locs : List Loc) (ls : Array Slot), K4 M L v1 v2 v3 → zWd D cy ad A s H locs M L → lv_has ls 5 [(0, .ref (ad 42)), (1, .int v1), (2, .int v2), (3, .int v3)] → W p l e rmX9_findOff s m args below meth c H locs cells slots Q (F0 m 4 ls [])) : ∀ (M : Mm) (L : Ml) (v1 : Int32) (v2 : Int32) (v3 : Int32) (H : Heap) (locs : List Loc) (ls : Array Slot), wpX9_findOff_58 post K4 M L v1 v2 v3 → zWd D cy ad A s H locs M L → lv_has ls 5 [(0, .ref (ad 42)), (1, .int v1), (2, .int v2), (3, .int v3)] → W p l e rmX9_findOff s m args below meth c H locs cells slots Q (F0 m 58 ls []) := by
  have hx := X.1.1; have hb0 := X.1.2.1; have hts := X.1.2.2.2.2
  intro M L v1 v2 v3 H locs ls hw hW hl
  unfold wpX9_findOff_58 at hw
  refine lv_iconst (v := (1 : Int32)) hx hb0 dX9_findOff_58 (by decide) ?_
  refine lv_goto (tgt := 63) hx hb0 dX9_findOff_59 (by decide) ?_
  exact mX9_findOff_63 X post hret K4 hK4 M L v1 v2 v3 (1 : Int32) _ _ ls hw hW (lv_sub hl [0, 1, 2, 3] rfl)
set_option maxRecDepth 20000 in
set_option maxHeartbeats 4000000 in
theorem mX9_findOff_62 {p : Program} {l : Launch} {e : Env} {s : State} {m : MethodId} {args : Array Value} {below : List Frame} {meth : Method} {c : Code} {cells slots : Nat} {Q : State → Prop} {D : va_G} {cy : Nat → ClassId} {ad : Nat → Nat} {A : Nat → Prop} (X : zCx p rmX9_findOff s m args c cells slots cX9_findOff 5 RX9 D cy ad A) (post : Int32 → Mm → Ml → Prop) (hret : zRi p l e rmX9_findOff s m args below meth c cells slots Q cX9_findOff D cy ad A .boolean post) (K4 : Mm → Ml → Int32 → Int32 → Int32 → Prop) (hK4 : ∀ (M : Mm) (L : Ml) (v1 : Int32) (v2 : Int32) (v3 : Int32) (H : Heap) (locs : List Loc) (ls : Array Slot), K4 M L v1 v2 v3 → zWd D cy ad A s H locs M L → lv_has ls 5 [(0, .ref (ad 42)), (1, .int v1), (2, .int v2), (3, .int v3)] → W p l e rmX9_findOff s m args below meth c H locs cells slots Q (F0 m 4 ls [])) : ∀ (M : Mm) (L : Ml) (v1 : Int32) (v2 : Int32) (v3 : Int32) (H : Heap) (locs : List Loc) (ls : Array Slot), wpX9_findOff_62 post K4 M L v1 v2 v3 → zWd D cy ad A s H locs M L → lv_has ls 5 [(0, .ref (ad 42)), (1, .int v1), (2, .int v2), (3, .int v3)] → W p l e rmX9_findOff s m args below meth c H locs cells slots Q (F0 m 62 ls []) := by
  have hx := X.1.1; have hb0 := X.1.2.1; have hts := X.1.2.2.2.2
  intro M L v1 v2 v3 H locs ls hw hW hl
  unfold wpX9_findOff_62 at hw
  refine lv_iconst (v := (0 : Int32)) hx hb0 dX9_findOff_62 (by decide) ?_
  exact mX9_findOff_63 X post hret K4 hK4 M L v1 v2 v3 (0 : Int32) _ _ ls hw hW (lv_sub hl [0, 1, 2, 3] rfl)
set_option maxRecDepth 20000 in
set_option maxHeartbeats 4000000 in
theorem mX9_findOff_4 {p : Program} {l : Launch} {e : Env} {s : State} {m : MethodId} {args : Array Value} {below : List Frame} {meth : Method} {c : Code} {cells slots : Nat} {Q : State → Prop} {D : va_G} {cy : Nat → ClassId} {ad : Nat → Nat} {A : Nat → Prop} (X : zCx p rmX9_findOff s m args c cells slots cX9_findOff 5 RX9 D cy ad A) (post : Int32 → Mm → Ml → Prop) (hret : zRi p l e rmX9_findOff s m args below meth c cells slots Q cX9_findOff D cy ad A .boolean post) : ∀ (j9 : Nat) (M : Mm) (L : Ml) (v1 : Int32) (v2 : Int32) (v3 : Int32) (H : Heap) (locs : List Loc) (ls : Array Slot), wlX9_findOff_4 post j9 (M, L, v1, v2, v3) → zWd D cy ad A s H locs M L → lv_has ls 5 [(0, .ref (ad 42)), (1, .int v1), (2, .int v2), (3, .int v3)] → W p l e rmX9_findOff s m args below meth c H locs cells slots Q (F0 m 4 ls []) := by
  have hx := X.1.1; have hb0 := X.1.2.1; have hts := X.1.2.2.2.2
  intro j9
  induction j9 with
  | zero => intro M L v1 v2 v3 H locs ls hw; exact hw.elim
  | succ j9 ih =>
    obtain ⟨K4, hKe⟩ : ∃ K : Mm → Ml → Int32 → Int32 → Int32 → Prop, K = fun M L v1 v2 v3 => wlX9_findOff_4 post j9 (M, L, v1, v2, v3) := ⟨_, rfl⟩
    have hK4 : ∀ (M : Mm) (L : Ml) (v1 : Int32) (v2 : Int32) (v3 : Int32) (H : Heap) (locs : List Loc) (ls : Array Slot), K4 M L v1 v2 v3 → zWd D cy ad A s H locs M L → lv_has ls 5 [(0, .ref (ad 42)), (1, .int v1), (2, .int v2), (3, .int v3)] → W p l e rmX9_findOff s m args below meth c H locs cells slots Q (F0 m 4 ls []) := by intro M L v1 v2 v3 H locs ls hw; rw [hKe] at hw; exact ih M L v1 v2 v3 H locs ls hw
    intro M L v1 v2 v3 H locs ls hw hW hl
    have hw : wpX9_findOff_4 post K4 M L v1 v2 v3 := by rw [hKe]; exact hw
    clear ih
    unfold wpX9_findOff_4 at hw
    refine lv_iload_n hx hb0 dX9_findOff_4 rfl (lv_at hl 3 rfl) ?_
    refine lv_sipush (v := (256 : Int32)) hx hb0 dX9_findOff_5 (by decide) ?_
    refine lv_icmp_ge (tgt := 109) hx hb0 dX9_findOff_8 (by decide) (fun c_8 => ?_) (fun c_8 => ?_)
    · replace hw := hw.1 c_8
      refine lv_iload_n hx hb0 dX9_findOff_109 rfl (lv_at hl 2 rfl) ?_
      exact hret _ ls _ _ v2 M L dX9_findOff_110 (z_bool hw.1) hw.2 hW
    · replace hw := hw.2 c_8
      refine lv_aload_n hx hb0 dX9_findOff_11 rfl (lv_at hl 0 rfl) ?_
      refine z_getR (k2 := 58) X hW zC7 zR_42_24 (by decide) rfl zl_X9_56 dX9_findOff_12 ?_
      refine lv_iload_n hx hb0 dX9_findOff_15 rfl (lv_at hl 3 rfl) ?_
      obtain ⟨g_16, hw⟩ := hw
      refine z_iald X hW zI_58 g_16 dX9_findOff_16 ?_
      refine lv_if_ge (tgt := 62) hx hb0 dX9_findOff_17 (by decide) (fun c_17 => ?_) (fun c_17 => ?_)
      · replace hw := hw.1 c_17
        exact mX9_findOff_62 X post hret K4 hK4 M L v1 v2 v3 _ _ ls hw hW (lv_sub hl [0, 1, 2, 3] rfl)
      · replace hw := hw.2 c_17
        refine lv_aload_n hx hb0 dX9_findOff_20 rfl (lv_at hl 0 rfl) ?_
        refine z_getR (k2 := 58) X hW zC7 zR_42_24 (by decide) rfl zl_X9_56 dX9_findOff_21 ?_
        refine lv_iload_n hx hb0 dX9_findOff_24 rfl (lv_at hl 3 rfl) ?_
        refine lv_aload_n hx hb0 dX9_findOff_25 rfl (lv_at hl 0 rfl) ?_
        refine z_getR (k2 := 50) X hW zC7 zR_42_8 (by decide) rfl zl_X9_31 dX9_findOff_26 ?_
        refine lv_iconst (v := (0 : Int32)) hx hb0 dX9_findOff_29 (by decide) ?_
        obtain ⟨g_30, hw⟩ := hw
        refine z_iald X hW zI_50 g_30 dX9_findOff_30 ?_
        refine z_Si X zc_X9_grown zt_X9_grown zl_X9_144 rfl ⟨rfl, rfl⟩ ⟨Nat.le_of_ble_eq_true rfl, Nat.le_of_ble_eq_true rfl⟩ (kX9_grown l D cy ad X.2.2.2.1 v3 (M 50 (0 : Int32).toNatClampNeg)) hW hw hl.1 rfl rfl (Nat.le_of_ble_eq_true rfl) dX9_findOff_31 (fun r_31 M_31 L_31 H_31 locs_31 hw hW => ?_)
        obtain ⟨g_34, hw⟩ := hw
        refine z_iald X hW zI_58 g_34 dX9_findOff_34 ?_
        refine lv_iload_n hx hb0 dX9_findOff_35 rfl (lv_at hl 1 rfl) ?_
        refine lv_icmp_eq (tgt := 58) hx hb0 dX9_findOff_36 (by decide) (fun c_36 => ?_) (fun c_36 => ?_)
        · replace hw := hw.1 c_36
          exact mX9_findOff_58 X post hret K4 hK4 M_31 L_31 v1 v2 v3 _ _ ls hw hW (lv_sub hl [0, 1, 2, 3] rfl)
        · replace hw := hw.2 c_36
          refine lv_aload_n hx hb0 dX9_findOff_39 rfl (lv_at hl 0 rfl) ?_
          refine z_getR (k2 := 58) X hW zC7 zR_42_24 (by decide) rfl zl_X9_56 dX9_findOff_40 ?_
          refine lv_iload_n hx hb0 dX9_findOff_43 rfl (lv_at hl 3 rfl) ?_
          refine lv_aload_n hx hb0 dX9_findOff_44 rfl (lv_at hl 0 rfl) ?_
          refine z_getR (k2 := 50) X hW zC7 zR_42_8 (by decide) rfl zl_X9_31 dX9_findOff_45 ?_
          refine lv_iconst (v := (1 : Int32)) hx hb0 dX9_findOff_48 (by decide) ?_
          obtain ⟨g_49, hw⟩ := hw
          refine z_iald X hW zI_50 g_49 dX9_findOff_49 ?_
          refine z_Si X zc_X9_grown zt_X9_grown zl_X9_144 rfl ⟨rfl, rfl⟩ ⟨Nat.le_of_ble_eq_true rfl, Nat.le_of_ble_eq_true rfl⟩ (kX9_grown l D cy ad X.2.2.2.1 v3 (M_31 50 (1 : Int32).toNatClampNeg)) hW hw hl.1 rfl rfl (Nat.le_of_ble_eq_true rfl) dX9_findOff_50 (fun r_50 M_50 L_50 H_50 locs_50 hw hW => ?_)
          obtain ⟨g_53, hw⟩ := hw
          refine z_iald X hW zI_58 g_53 dX9_findOff_53 ?_
          refine lv_iload_n hx hb0 dX9_findOff_54 rfl (lv_at hl 1 rfl) ?_
          refine lv_icmp_ne (tgt := 62) hx hb0 dX9_findOff_55 (by decide) (fun c_55 => ?_) (fun c_55 => ?_)
          · replace hw := hw.1 c_55
            exact mX9_findOff_62 X post hret K4 hK4 M_50 L_50 v1 v2 v3 _ _ ls hw hW (lv_sub hl [0, 1, 2, 3] rfl)
          · replace hw := hw.2 c_55
            exact mX9_findOff_58 X post hret K4 hK4 M_50 L_50 v1 v2 v3 _ _ ls hw hW (lv_sub hl [0, 1, 2, 3] rfl)
set_option maxRecDepth 20000 in
set_option maxHeartbeats 4000000 in
theorem mX9_findOff {p : Program} {l : Launch} {e : Env} {s : State} {m : MethodId} {args : Array Value} {below : List Frame} {meth : Method} {c : Code} {cells slots : Nat} {Q : State → Prop} {D : va_G} {cy : Nat → ClassId} {ad : Nat → Nat} {A : Nat → Prop} (X : zCx p rmX9_findOff s m args c cells slots cX9_findOff 5 RX9 D cy ad A) (post : Int32 → Mm → Ml → Prop) (hret : zRi p l e rmX9_findOff s m args below meth c cells slots Q cX9_findOff D cy ad A .boolean post) : ∀ (M : Mm) (L : Ml) (x1 : Int32) (H : Heap) (locs : List Loc) (ls : Array Slot), wpX9_findOff x1 M L post → zWd D cy ad A s H locs M L → lv_has ls 5 [(0, .ref (ad 42)), (1, .int x1)] → W p l e rmX9_findOff s m args below meth c H locs cells slots Q (F0 m 0 ls []) := by
  have hx := X.1.1; have hb0 := X.1.2.1; have hts := X.1.2.2.2.2
  intro M L x1 H locs ls hw hW hl
  unfold wpX9_findOff at hw
  refine lv_iconst (v := (0 : Int32)) hx hb0 dX9_findOff_0 (by decide) ?_
  refine lv_istore_n (lv' := [(2, .int (0 : Int32)), (0, .ref (ad 42)), (1, .int x1)]) hx hb0 dX9_findOff_1 rfl hl (by decide) rfl (fun ls hl => ?_)
  refine lv_iconst (v := (0 : Int32)) hx hb0 dX9_findOff_2 (by decide) ?_
  refine lv_istore_n (lv' := [(3, .int (0 : Int32)), (2, .int (0 : Int32)), (0, .ref (ad 42)), (1, .int x1)]) hx hb0 dX9_findOff_3 rfl hl (by decide) rfl (fun ls hl => ?_)
  obtain ⟨n_4, hw⟩ := hw
  exact mX9_findOff_4 X post hret n_4 M L x1 (0 : Int32) (0 : Int32) _ _ ls hw hW (lv_sub hl [2, 3, 1, 0] rfl)
theorem kX9_findOff (l : Launch) (D : va_G) (cy : Nat → ClassId) (ad : Nat → Nat) (hi : zInj ad) (x1 : Int32) : zMi l yX9_findOff (.code yX9_findOff cX9_findOff 5 (some .boolean) :: zG) rmX9_findOff D cy ad [.ref (ad 42), .int x1] (wpX9_findOff x1) :=
  zMi_of (by decide +kernel) (Nat.le_of_ble_eq_true rfl) hi (fun X M L post _ hret ls hl hw hW => mX9_findOff X post hret M L x1 _ _ ls hw hW hl)
abbrev rmX9_soon : Room := { frames := 2, cells := 0, slots := 0, locals := 51 }
set_option maxRecDepth 20000 in
set_option maxHeartbeats 4000000 in
theorem mX9_soon_14 {p : Program} {l : Launch} {e : Env} {s : State} {m : MethodId} {args : Array Value} {below : List Frame} {meth : Method} {c : Code} {cells slots : Nat} {Q : State → Prop} {D : va_G} {cy : Nat → ClassId} {ad : Nat → Nat} {A : Nat → Prop} (X : zCx p rmX9_soon s m args c cells slots cX9_soon 4 RX9 D cy ad A) (post : Int32 → Mm → Ml → Prop) (hret : zRi p l e rmX9_soon s m args below meth c cells slots Q cX9_soon D cy ad A .int post) : ∀ (M : Mm) (L : Ml) (H : Heap) (locs : List Loc) (ls : Array Slot), wpX9_soon_14 post M L → zWd D cy ad A s H locs M L → lv_has ls 4 [] → W p l e rmX9_soon s m args below meth c H locs cells slots Q (F0 m 14 ls []) := by
  have hx := X.1.1; have hb0 := X.1.2.1; have hts := X.1.2.2.2.2
  intro M L H locs ls hw hW hl
  unfold wpX9_soon_14 at hw
  refine lv_bipush (v := (-2 : Int32)) hx hb0 dX9_soon_14 (by decide) ?_
  exact hret _ ls _ _ (-2 : Int32) M L dX9_soon_16 rfl hw hW
set_option maxRecDepth 20000 in
set_option maxHeartbeats 4000000 in
theorem mX9_soon_42 {p : Program} {l : Launch} {e : Env} {s : State} {m : MethodId} {args : Array Value} {below : List Frame} {meth : Method} {c : Code} {cells slots : Nat} {Q : State → Prop} {D : va_G} {cy : Nat → ClassId} {ad : Nat → Nat} {A : Nat → Prop} (X : zCx p rmX9_soon s m args c cells slots cX9_soon 4 RX9 D cy ad A) (post : Int32 → Mm → Ml → Prop) (hret : zRi p l e rmX9_soon s m args below meth c cells slots Q cX9_soon D cy ad A .int post) (K19 : Mm → Ml → Int32 → Int32 → Int32 → Prop) (hK19 : ∀ (M : Mm) (L : Ml) (v1 : Int32) (v2 : Int32) (v3 : Int32) (H : Heap) (locs : List Loc) (ls : Array Slot), K19 M L v1 v2 v3 → zWd D cy ad A s H locs M L → lv_has ls 4 [(0, .ref (ad 42)), (1, .int v1), (2, .int v2), (3, .int v3)] → W p l e rmX9_soon s m args below meth c H locs cells slots Q (F0 m 19 ls [])) : ∀ (M : Mm) (L : Ml) (v1 : Int32) (v2 : Int32) (v3 : Int32) (s0 : Int32) (s1 : Int32) (H : Heap) (locs : List Loc) (ls : Array Slot), wpX9_soon_42 post K19 M L v1 v2 v3 s0 s1 → zWd D cy ad A s H locs M L → lv_has ls 4 [(0, .ref (ad 42)), (1, .int v1), (2, .int v2), (3, .int v3)] → W p l e rmX9_soon s m args below meth c H locs cells slots Q (F0 m 42 ls [.int s0, .int s1, .ref (ad 58)]) := by
  have hx := X.1.1; have hb0 := X.1.2.1; have hts := X.1.2.2.2.2
  intro M L v1 v2 v3 s0 s1 H locs ls hw hW hl
  unfold wpX9_soon_42 at hw
  obtain ⟨g_42, hw⟩ := hw
  refine z_iast X hW zI_58 g_42 dX9_soon_42 (fun M_42 H_42 locs_42 e_42 hW => ?_)
  replace hw := hw M_42 e_42
  obtain ⟨a_43, e_43⟩ : ∃ y : Int32, y = v3 + (1 : Int32) := ⟨_, rfl⟩
  replace hw := hw a_43 e_43
  refine lv_iinc (v := a_43) (lv' := [(3, .int a_43), (0, .ref (ad 42)), (1, .int v1), (2, .int v2)]) hx hb0 dX9_soon_43 hl (k := 3) rfl (by rw [e_43]; rfl) (by decide) rfl (fun ls hl => ?_)
  refine lv_goto (tgt := 19) hx hb0 dX9_soon_46 (by decide) ?_
  exact hK19 M_42 L v1 v2 a_43 _ _ ls hw hW (lv_sub hl [1, 2, 3, 0] rfl)
set_option maxRecDepth 20000 in
set_option maxHeartbeats 4000000 in
theorem mX9_soon_51 {p : Program} {l : Launch} {e : Env} {s : State} {m : MethodId} {args : Array Value} {below : List Frame} {meth : Method} {c : Code} {cells slots : Nat} {Q : State → Prop} {D : va_G} {cy : Nat → ClassId} {ad : Nat → Nat} {A : Nat → Prop} (X : zCx p rmX9_soon s m args c cells slots cX9_soon 4 RX9 D cy ad A) (post : Int32 → Mm → Ml → Prop) (hret : zRi p l e rmX9_soon s m args below meth c cells slots Q cX9_soon D cy ad A .int post) : ∀ (j9 : Nat) (M : Mm) (L : Ml) (v1 : Int32) (v3 : Int32) (H : Heap) (locs : List Loc) (ls : Array Slot), wlX9_soon_51 post j9 (M, L, v1, v3) → zWd D cy ad A s H locs M L → lv_has ls 4 [(0, .ref (ad 42)), (1, .int v1), (3, .int v3)] → W p l e rmX9_soon s m args below meth c H locs cells slots Q (F0 m 51 ls []) := by
  have hx := X.1.1; have hb0 := X.1.2.1; have hts := X.1.2.2.2.2
  intro j9
  induction j9 with
  | zero => intro M L v1 v3 H locs ls hw; exact hw.elim
  | succ j9 ih =>
    obtain ⟨K51, hKe⟩ : ∃ K : Mm → Ml → Int32 → Int32 → Prop, K = fun M L v1 v3 => wlX9_soon_51 post j9 (M, L, v1, v3) := ⟨_, rfl⟩
    have hK51 : ∀ (M : Mm) (L : Ml) (v1 : Int32) (v3 : Int32) (H : Heap) (locs : List Loc) (ls : Array Slot), K51 M L v1 v3 → zWd D cy ad A s H locs M L → lv_has ls 4 [(0, .ref (ad 42)), (1, .int v1), (3, .int v3)] → W p l e rmX9_soon s m args below meth c H locs cells slots Q (F0 m 51 ls []) := by intro M L v1 v3 H locs ls hw; rw [hKe] at hw; exact ih M L v1 v3 H locs ls hw
    intro M L v1 v3 H locs ls hw hW hl
    have hw : wpX9_soon_51 post K51 M L v1 v3 := by rw [hKe]; exact hw
    clear ih
    unfold wpX9_soon_51 at hw
    refine lv_aload_n hx hb0 dX9_soon_51 rfl (lv_at hl 0 rfl) ?_
    refine lv_iload_n hx hb0 dX9_soon_52 rfl (lv_at hl 2 rfl) ?_
    refine z_Vi X zO_42 zC7 zc_X9_findOff zs_X9_findOff zl_X9_229 rfl ⟨rfl, rfl⟩ ⟨Nat.le_of_ble_eq_true rfl, Nat.le_of_ble_eq_true rfl⟩ (kX9_findOff l D cy ad X.2.2.2.1 v3) hW hw hl.1 rfl rfl (Nat.le_of_ble_eq_true rfl) dX9_soon_53 (fun r_53 M_53 L_53 H_53 locs_53 hw hW => ?_)
    refine lv_if_eq (tgt := 65) hx hb0 dX9_soon_56 (by decide) (fun c_56 => ?_) (fun c_56 => ?_)
    · replace hw := hw.1 c_56
      refine lv_aload_n hx hb0 dX9_soon_65 rfl (lv_at hl 0 rfl) ?_
      refine z_getR (k2 := 58) X hW zC7 zR_42_24 (by decide) rfl zl_X9_56 dX9_soon_66 ?_
      refine lv_iload_n hx hb0 dX9_soon_69 rfl (lv_at hl 1 rfl) ?_
      obtain ⟨g_70, hw⟩ := hw
      refine z_iald X hW zI_58 g_70 dX9_soon_70 ?_
      exact hret _ ls _ _ (M_53 58 v1.toNatClampNeg) M_53 L_53 dX9_soon_71 rfl hw hW
    · replace hw := hw.2 c_56
      obtain ⟨a_59, e_59⟩ : ∃ y : Int32, y = v3 + (1 : Int32) := ⟨_, rfl⟩
      replace hw := hw a_59 e_59
      refine lv_iinc (v := a_59) (lv' := [(3, .int a_59), (0, .ref (ad 42)), (1, .int v1)]) hx hb0 dX9_soon_59 hl (k := 2) rfl (by rw [e_59]; rfl) (by decide) rfl (fun ls hl => ?_)
      refine lv_goto (tgt := 51) hx hb0 dX9_soon_62 (by decide) ?_
      exact hK51 M_53 L_53 v1 a_59 _ _ ls hw hW (lv_sub hl [1, 2, 0] rfl)
set_option maxRecDepth 20000 in
set_option maxHeartbeats 4000000 in
theorem mX9_soon_19 {p : Program} {l : Launch} {e : Env} {s : State} {m : MethodId} {args : Array Value} {below : List Frame} {meth : Method} {c : Code} {cells slots : Nat} {Q : State → Prop} {D : va_G} {cy : Nat → ClassId} {ad : Nat → Nat} {A : Nat → Prop} (X : zCx p rmX9_soon s m args c cells slots cX9_soon 4 RX9 D cy ad A) (post : Int32 → Mm → Ml → Prop) (hret : zRi p l e rmX9_soon s m args below meth c cells slots Q cX9_soon D cy ad A .int post) : ∀ (j9 : Nat) (M : Mm) (L : Ml) (v1 : Int32) (v2 : Int32) (v3 : Int32) (H : Heap) (locs : List Loc) (ls : Array Slot), wlX9_soon_19 post j9 (M, L, v1, v2, v3) → zWd D cy ad A s H locs M L → lv_has ls 4 [(0, .ref (ad 42)), (1, .int v1), (2, .int v2), (3, .int v3)] → W p l e rmX9_soon s m args below meth c H locs cells slots Q (F0 m 19 ls []) := by
  have hx := X.1.1; have hb0 := X.1.2.1; have hts := X.1.2.2.2.2
  intro j9
  induction j9 with
  | zero => intro M L v1 v2 v3 H locs ls hw; exact hw.elim
  | succ j9 ih =>
    obtain ⟨K19, hKe⟩ : ∃ K : Mm → Ml → Int32 → Int32 → Int32 → Prop, K = fun M L v1 v2 v3 => wlX9_soon_19 post j9 (M, L, v1, v2, v3) := ⟨_, rfl⟩
    have hK19 : ∀ (M : Mm) (L : Ml) (v1 : Int32) (v2 : Int32) (v3 : Int32) (H : Heap) (locs : List Loc) (ls : Array Slot), K19 M L v1 v2 v3 → zWd D cy ad A s H locs M L → lv_has ls 4 [(0, .ref (ad 42)), (1, .int v1), (2, .int v2), (3, .int v3)] → W p l e rmX9_soon s m args below meth c H locs cells slots Q (F0 m 19 ls []) := by intro M L v1 v2 v3 H locs ls hw; rw [hKe] at hw; exact ih M L v1 v2 v3 H locs ls hw
    intro M L v1 v2 v3 H locs ls hw hW hl
    have hw : wpX9_soon_19 post K19 M L v1 v2 v3 := by rw [hKe]; exact hw
    clear ih
    unfold wpX9_soon_19 at hw
    refine lv_iload_n hx hb0 dX9_soon_19 rfl (lv_at hl 3 rfl) ?_
    refine lv_sipush (v := (256 : Int32)) hx hb0 dX9_soon_20 (by decide) ?_
    refine lv_icmp_ge (tgt := 49) hx hb0 dX9_soon_23 (by decide) (fun c_23 => ?_) (fun c_23 => ?_)
    · replace hw := hw.1 c_23
      refine lv_iconst (v := (0 : Int32)) hx hb0 dX9_soon_49 (by decide) ?_
      refine lv_istore_n (lv' := [(3, .int (0 : Int32)), (0, .ref (ad 42)), (1, .int v1), (2, .int v2)]) hx hb0 dX9_soon_50 rfl hl (by decide) rfl (fun ls hl => ?_)
      obtain ⟨n_51, hw⟩ := hw
      exact mX9_soon_51 X post hret n_51 M L v1 (0 : Int32) _ _ ls hw hW (lv_sub hl [1, 2, 0] rfl)
    · replace hw := hw.2 c_23
      refine lv_aload_n hx hb0 dX9_soon_26 rfl (lv_at hl 0 rfl) ?_
      refine z_getR (k2 := 58) X hW zC7 zR_42_24 (by decide) rfl zl_X9_56 dX9_soon_27 ?_
      refine lv_iload_n hx hb0 dX9_soon_30 rfl (lv_at hl 3 rfl) ?_
      refine lv_iload_n hx hb0 dX9_soon_31 rfl (lv_at hl 3 rfl) ?_
      refine lv_iload_n hx hb0 dX9_soon_32 rfl (lv_at hl 2 rfl) ?_
      refine lv_icmp_ne (tgt := 40) hx hb0 dX9_soon_33 (by decide) (fun c_33 => ?_) (fun c_33 => ?_)
      · replace hw := hw.1 c_33
        refine lv_bipush (v := (-6 : Int32)) hx hb0 dX9_soon_40 (by decide) ?_
        exact mX9_soon_42 X post hret K19 hK19 M L v1 v2 v3 (-6 : Int32) v3 _ _ ls hw hW (lv_sub hl [0, 1, 2, 3] rfl)
      · replace hw := hw.2 c_33
        refine lv_iconst (v := (0 : Int32)) hx hb0 dX9_soon_36 (by decide) ?_
        refine lv_goto (tgt := 42) hx hb0 dX9_soon_37 (by decide) ?_
        exact mX9_soon_42 X post hret K19 hK19 M L v1 v2 v3 (0 : Int32) v3 _ _ ls hw hW (lv_sub hl [0, 1, 2, 3] rfl)
set_option maxRecDepth 20000 in
set_option maxHeartbeats 4000000 in
theorem mX9_soon {p : Program} {l : Launch} {e : Env} {s : State} {m : MethodId} {args : Array Value} {below : List Frame} {meth : Method} {c : Code} {cells slots : Nat} {Q : State → Prop} {D : va_G} {cy : Nat → ClassId} {ad : Nat → Nat} {A : Nat → Prop} (X : zCx p rmX9_soon s m args c cells slots cX9_soon 4 RX9 D cy ad A) (post : Int32 → Mm → Ml → Prop) (hret : zRi p l e rmX9_soon s m args below meth c cells slots Q cX9_soon D cy ad A .int post) : ∀ (M : Mm) (L : Ml) (x1 : Int32) (x2 : Int32) (H : Heap) (locs : List Loc) (ls : Array Slot), wpX9_soon x1 x2 M L post → zWd D cy ad A s H locs M L → lv_has ls 4 [(0, .ref (ad 42)), (1, .int x1), (2, .int x2)] → W p l e rmX9_soon s m args below meth c H locs cells slots Q (F0 m 0 ls []) := by
  have hx := X.1.1; have hb0 := X.1.2.1; have hts := X.1.2.2.2.2
  intro M L x1 x2 H locs ls hw hW hl
  unfold wpX9_soon at hw
  refine lv_iload_n hx hb0 dX9_soon_0 rfl (lv_at hl 1 rfl) ?_
  refine z_Si X zc_X9_isArm zt_X9_isArm zl_X9_102 rfl ⟨rfl, rfl⟩ ⟨Nat.le_of_ble_eq_true rfl, Nat.le_of_ble_eq_true rfl⟩ (kX9_isArm l D cy ad X.2.2.2.1 x1) hW hw hl.1 rfl rfl (Nat.le_of_ble_eq_true rfl) dX9_soon_1 (fun r_1 M_1 L_1 H_1 locs_1 hw hW => ?_)
  refine lv_if_eq (tgt := 14) hx hb0 dX9_soon_4 (by decide) (fun c_4 => ?_) (fun c_4 => ?_)
  · replace hw := hw.1 c_4
    exact mX9_soon_14 X post hret M_1 L_1 _ _ ls hw hW (lv_sub hl [] rfl)
  · replace hw := hw.2 c_4
    refine lv_iload_n hx hb0 dX9_soon_7 rfl (lv_at hl 2 rfl) ?_
    refine z_Si X zc_X9_isArm zt_X9_isArm zl_X9_102 rfl ⟨rfl, rfl⟩ ⟨Nat.le_of_ble_eq_true rfl, Nat.le_of_ble_eq_true rfl⟩ (kX9_isArm l D cy ad X.2.2.2.1 x2) hW hw hl.1 rfl rfl (Nat.le_of_ble_eq_true rfl) dX9_soon_8 (fun r_8 M_8 L_8 H_8 locs_8 hw hW => ?_)
    refine lv_if_ne (tgt := 17) hx hb0 dX9_soon_11 (by decide) (fun c_11 => ?_) (fun c_11 => ?_)
    · replace hw := hw.1 c_11
      refine lv_iconst (v := (0 : Int32)) hx hb0 dX9_soon_17 (by decide) ?_
      refine lv_istore_n (lv' := [(3, .int (0 : Int32)), (0, .ref (ad 42)), (1, .int x1), (2, .int x2)]) hx hb0 dX9_soon_18 rfl hl (by decide) rfl (fun ls hl => ?_)
      obtain ⟨n_19, hw⟩ := hw
      exact mX9_soon_19 X post hret n_19 M_8 L_8 x1 x2 (0 : Int32) _ _ ls hw hW (lv_sub hl [1, 2, 3, 0] rfl)
    · replace hw := hw.2 c_11
      exact mX9_soon_14 X post hret M_8 L_8 _ _ ls hw hW (lv_sub hl [] rfl)
theorem kX9_soon (l : Launch) (D : va_G) (cy : Nat → ClassId) (ad : Nat → Nat) (hi : zInj ad) (x1 : Int32) (x2 : Int32) : zMi l yX9_soon (.code yX9_soon cX9_soon 4 (some .int) :: zG) rmX9_soon D cy ad [.ref (ad 42), .int x1, .int x2] (wpX9_soon x1 x2) :=
  zMi_of (by decide +kernel) (Nat.le_of_ble_eq_true rfl) hi (fun X M L post _ hret ls hl hw hW => mX9_soon X post hret M L x1 x2 _ _ ls hw hW hl)
abbrev rmX9_canGet : Room := { frames := 3, cells := 0, slots := 0, locals := 67 }
set_option maxRecDepth 20000 in
set_option maxHeartbeats 4000000 in
theorem mX9_canGet_48 {p : Program} {l : Launch} {e : Env} {s : State} {m : MethodId} {args : Array Value} {below : List Frame} {meth : Method} {c : Code} {cells slots : Nat} {Q : State → Prop} {D : va_G} {cy : Nat → ClassId} {ad : Nat → Nat} {A : Nat → Prop} (X : zCx p rmX9_canGet s m args c cells slots cX9_canGet 4 RX9 D cy ad A) (post : Int32 → Mm → Ml → Prop) (hret : zRi p l e rmX9_canGet s m args below meth c cells slots Q cX9_canGet D cy ad A .boolean post) : ∀ (M : Mm) (L : Ml) (s0 : Int32) (H : Heap) (locs : List Loc) (ls : Array Slot), wpX9_canGet_48 post M L s0 → zWd D cy ad A s H locs M L → lv_has ls 4 [] → W p l e rmX9_canGet s m args below meth c H locs cells slots Q (F0 m 48 ls [.int s0]) := by
  have hx := X.1.1; have hb0 := X.1.2.1; have hts := X.1.2.2.2.2
  intro M L s0 H locs ls hw hW hl
  unfold wpX9_canGet_48 at hw
  exact hret _ ls _ _ s0 M L dX9_canGet_48 (z_bool hw.1) hw.2 hW
set_option maxRecDepth 20000 in
set_option maxHeartbeats 4000000 in
theorem mX9_canGet_47 {p : Program} {l : Launch} {e : Env} {s : State} {m : MethodId} {args : Array Value} {below : List Frame} {meth : Method} {c : Code} {cells slots : Nat} {Q : State → Prop} {D : va_G} {cy : Nat → ClassId} {ad : Nat → Nat} {A : Nat → Prop} (X : zCx p rmX9_canGet s m args c cells slots cX9_canGet 4 RX9 D cy ad A) (post : Int32 → Mm → Ml → Prop) (hret : zRi p l e rmX9_canGet s m args below meth c cells slots Q cX9_canGet D cy ad A .boolean post) : ∀ (M : Mm) (L : Ml) (H : Heap) (locs : List Loc) (ls : Array Slot), wpX9_canGet_47 post M L → zWd D cy ad A s H locs M L → lv_has ls 4 [] → W p l e rmX9_canGet s m args below meth c H locs cells slots Q (F0 m 47 ls []) := by
  have hx := X.1.1; have hb0 := X.1.2.1; have hts := X.1.2.2.2.2
  intro M L H locs ls hw hW hl
  unfold wpX9_canGet_47 at hw
  refine lv_iconst (v := (0 : Int32)) hx hb0 dX9_canGet_47 (by decide) ?_
  exact mX9_canGet_48 X post hret M L (0 : Int32) _ _ ls hw hW (lv_sub hl [] rfl)
set_option maxRecDepth 20000 in
set_option maxHeartbeats 4000000 in
theorem mX9_canGet {p : Program} {l : Launch} {e : Env} {s : State} {m : MethodId} {args : Array Value} {below : List Frame} {meth : Method} {c : Code} {cells slots : Nat} {Q : State → Prop} {D : va_G} {cy : Nat → ClassId} {ad : Nat → Nat} {A : Nat → Prop} (X : zCx p rmX9_canGet s m args c cells slots cX9_canGet 4 RX9 D cy ad A) (post : Int32 → Mm → Ml → Prop) (hret : zRi p l e rmX9_canGet s m args below meth c cells slots Q cX9_canGet D cy ad A .boolean post) : ∀ (M : Mm) (L : Ml) (x1 : Int32) (x2 : Int32) (H : Heap) (locs : List Loc) (ls : Array Slot), wpX9_canGet x1 x2 M L post → zWd D cy ad A s H locs M L → lv_has ls 4 [(0, .ref (ad 42)), (1, .int x1), (2, .int x2)] → W p l e rmX9_canGet s m args below meth c H locs cells slots Q (F0 m 0 ls []) := by
  have hx := X.1.1; have hb0 := X.1.2.1; have hts := X.1.2.2.2.2
  intro M L x1 x2 H locs ls hw hW hl
  unfold wpX9_canGet at hw
  refine lv_aload_n hx hb0 dX9_canGet_0 rfl (lv_at hl 0 rfl) ?_
  refine z_getR (k2 := 48) X hW zC7 zR_42_6 (by decide) rfl zl_X9_25 dX9_canGet_1 ?_
  refine lv_iload_n hx hb0 dX9_canGet_4 rfl (lv_at hl 1 rfl) ?_
  obtain ⟨g_5, hw⟩ := hw
  refine z_iald X hW zI_48 g_5 dX9_canGet_5 ?_
  refine lv_aload_n hx hb0 dX9_canGet_6 rfl (lv_at hl 0 rfl) ?_
  refine z_getR (k2 := 44) X hW zC7 zR_42_2 (by decide) rfl zl_X9_13 dX9_canGet_7 ?_
  refine lv_iload_n hx hb0 dX9_canGet_10 rfl (lv_at hl 2 rfl) ?_
  obtain ⟨g_11, hw⟩ := hw
  refine z_iald X hW zI_44 g_11 dX9_canGet_11 ?_
  refine lv_isub hx hb0 dX9_canGet_12 ?_
  refine lv_topi (fun a_13 e_13 => ?_)
  replace hw := hw a_13 e_13
  refine lv_istore_n (lv' := [(3, .int a_13), (0, .ref (ad 42)), (1, .int x1), (2, .int x2)]) hx hb0 dX9_canGet_13 rfl hl (by decide) rfl (fun ls hl => ?_)
  refine lv_aload_n hx hb0 dX9_canGet_14 rfl (lv_at hl 1 rfl) ?_
  refine lv_iload_n hx hb0 dX9_canGet_15 rfl (lv_at hl 3 rfl) ?_
  refine z_Vi X zO_42 zC7 zc_X9_isAbove zs_X9_isAbove zl_X9_137 rfl ⟨rfl, rfl⟩ ⟨Nat.le_of_ble_eq_true rfl, Nat.le_of_ble_eq_true rfl⟩ (kX9_isAbove l D cy ad X.2.2.2.1 x2) hW hw hl.1 rfl rfl (Nat.le_of_ble_eq_true rfl) dX9_canGet_16 (fun r_16 M_16 L_16 H_16 locs_16 hw hW => ?_)
  refine lv_if_eq (tgt := 47) hx hb0 dX9_canGet_19 (by decide) (fun c_19 => ?_) (fun c_19 => ?_)
  · replace hw := hw.1 c_19
    exact mX9_canGet_47 X post hret M_16 L_16 _ _ ls hw hW (lv_sub hl [] rfl)
  · replace hw := hw.2 c_19
    refine lv_iload_n hx hb0 dX9_canGet_22 rfl (lv_at hl 0 rfl) ?_
    refine lv_aload_n hx hb0 dX9_canGet_23 rfl (lv_at hl 1 rfl) ?_
    refine z_getR (k2 := 45) X hW zC7 zR_42_3 (by decide) rfl zl_X9_16 dX9_canGet_24 ?_
    refine lv_iload_n hx hb0 dX9_canGet_27 rfl (lv_at hl 3 rfl) ?_
    obtain ⟨g_28, hw⟩ := hw
    refine z_iald X hW zI_45 g_28 dX9_canGet_28 ?_
    refine lv_icmp_gt (tgt := 47) hx hb0 dX9_canGet_29 (by decide) (fun c_29 => ?_) (fun c_29 => ?_)
    · replace hw := hw.1 c_29
      exact mX9_canGet_47 X post hret M_16 L_16 _ _ ls hw hW (lv_sub hl [] rfl)
    · replace hw := hw.2 c_29
      refine lv_iload_n hx hb0 dX9_canGet_32 rfl (lv_at hl 0 rfl) ?_
      refine lv_ineg hx hb0 dX9_canGet_33 ?_
      refine lv_aload_n hx hb0 dX9_canGet_34 rfl (lv_at hl 1 rfl) ?_
      refine z_getR (k2 := 45) X hW zC7 zR_42_3 (by decide) rfl zl_X9_16 dX9_canGet_35 ?_
      refine lv_iload_n hx hb0 dX9_canGet_38 rfl (lv_at hl 3 rfl) ?_
      obtain ⟨g_39, hw⟩ := hw
      refine z_iald X hW zI_45 g_39 dX9_canGet_39 ?_
      refine lv_icmp_gt (tgt := 47) hx hb0 dX9_canGet_40 (by decide) (fun c_40 => ?_) (fun c_40 => ?_)
      · replace hw := hw.1 c_40
        exact mX9_canGet_47 X post hret M_16 L_16 _ _ ls hw hW (lv_sub hl [] rfl)
      · replace hw := hw.2 c_40
        refine lv_iconst (v := (1 : Int32)) hx hb0 dX9_canGet_43 (by decide) ?_
        refine lv_goto (tgt := 48) hx hb0 dX9_canGet_44 (by decide) ?_
        exact mX9_canGet_48 X post hret M_16 L_16 (1 : Int32) _ _ ls hw hW (lv_sub hl [] rfl)
theorem kX9_canGet (l : Launch) (D : va_G) (cy : Nat → ClassId) (ad : Nat → Nat) (hi : zInj ad) (x1 : Int32) (x2 : Int32) : zMi l yX9_canGet (.code yX9_canGet cX9_canGet 4 (some .boolean) :: zG) rmX9_canGet D cy ad [.ref (ad 42), .int x1, .int x2] (wpX9_canGet x1 x2) :=
  zMi_of (by decide +kernel) (Nat.le_of_ble_eq_true rfl) hi (fun X M L post _ hret ls hl hw hW => mX9_canGet X post hret M L x1 x2 _ _ ls hw hW hl)
abbrev rmX9_canGetOwn : Room := { frames := 4, cells := 0, slots := 0, locals := 90 }
set_option maxRecDepth 20000 in
set_option maxHeartbeats 4000000 in
theorem mX9_canGetOwn_46 {p : Program} {l : Launch} {e : Env} {s : State} {m : MethodId} {args : Array Value} {below : List Frame} {meth : Method} {c : Code} {cells slots : Nat} {Q : State → Prop} {D : va_G} {cy : Nat → ClassId} {ad : Nat → Nat} {A : Nat → Prop} (X : zCx p rmX9_canGetOwn s m args c cells slots cX9_canGetOwn 4 RX9 D cy ad A) (post : Int32 → Mm → Ml → Prop) (hret : zRi p l e rmX9_canGetOwn s m args below meth c cells slots Q cX9_canGetOwn D cy ad A .boolean post) (K4 : Mm → Ml → Int32 → Int32 → Int32 → Prop) (hK4 : ∀ (M : Mm) (L : Ml) (v1 : Int32) (v2 : Int32) (v3 : Int32) (H : Heap) (locs : List Loc) (ls : Array Slot), K4 M L v1 v2 v3 → zWd D cy ad A s H locs M L → lv_has ls 4 [(0, .ref (ad 42)), (1, .int v1), (2, .int v2), (3, .int v3)] → W p l e rmX9_canGetOwn s m args below meth c H locs cells slots Q (F0 m 4 ls [])) : ∀ (M : Mm) (L : Ml) (v1 : Int32) (v3 : Int32) (s0 : Int32) (H : Heap) (locs : List Loc) (ls : Array Slot), wpX9_canGetOwn_46 post K4 M L v1 v3 s0 → zWd D cy ad A s H locs M L → lv_has ls 4 [(0, .ref (ad 42)), (1, .int v1), (3, .int v3)] → W p l e rmX9_canGetOwn s m args below meth c H locs cells slots Q (F0 m 46 ls [.int s0]) := by
  have hx := X.1.1; have hb0 := X.1.2.1; have hts := X.1.2.2.2.2
  intro M L v1 v3 s0 H locs ls hw hW hl
  unfold wpX9_canGetOwn_46 at hw
  refine lv_istore_n (lv' := [(2, .int s0), (0, .ref (ad 42)), (1, .int v1), (3, .int v3)]) hx hb0 dX9_canGetOwn_46 rfl hl (by decide) rfl (fun ls hl => ?_)
  obtain ⟨a_47, e_47⟩ : ∃ y : Int32, y = v3 + (1 : Int32) := ⟨_, rfl⟩
  replace hw := hw a_47 e_47
  refine lv_iinc (v := a_47) (lv' := [(3, .int a_47), (2, .int s0), (0, .ref (ad 42)), (1, .int v1)]) hx hb0 dX9_canGetOwn_47 hl (k := 3) rfl (by rw [e_47]; rfl) (by decide) rfl (fun ls hl => ?_)
  refine lv_goto (tgt := 4) hx hb0 dX9_canGetOwn_50 (by decide) ?_
  exact hK4 M L v1 s0 a_47 _ _ ls hw hW (lv_sub hl [2, 3, 1, 0] rfl)
set_option maxRecDepth 20000 in
set_option maxHeartbeats 4000000 in
theorem mX9_canGetOwn_41 {p : Program} {l : Launch} {e : Env} {s : State} {m : MethodId} {args : Array Value} {below : List Frame} {meth : Method} {c : Code} {cells slots : Nat} {Q : State → Prop} {D : va_G} {cy : Nat → ClassId} {ad : Nat → Nat} {A : Nat → Prop} (X : zCx p rmX9_canGetOwn s m args c cells slots cX9_canGetOwn 4 RX9 D cy ad A) (post : Int32 → Mm → Ml → Prop) (hret : zRi p l e rmX9_canGetOwn s m args below meth c cells slots Q cX9_canGetOwn D cy ad A .boolean post) (K4 : Mm → Ml → Int32 → Int32 → Int32 → Prop) (hK4 : ∀ (M : Mm) (L : Ml) (v1 : Int32) (v2 : Int32) (v3 : Int32) (H : Heap) (locs : List Loc) (ls : Array Slot), K4 M L v1 v2 v3 → zWd D cy ad A s H locs M L → lv_has ls 4 [(0, .ref (ad 42)), (1, .int v1), (2, .int v2), (3, .int v3)] → W p l e rmX9_canGetOwn s m args below meth c H locs cells slots Q (F0 m 4 ls [])) : ∀ (M : Mm) (L : Ml) (v1 : Int32) (v3 : Int32) (H : Heap) (locs : List Loc) (ls : Array Slot), wpX9_canGetOwn_41 post K4 M L v1 v3 → zWd D cy ad A s H locs M L → lv_has ls 4 [(0, .ref (ad 42)), (1, .int v1), (3, .int v3)] → W p l e rmX9_canGetOwn s m args below meth c H locs cells slots Q (F0 m 41 ls []) := by
  have hx := X.1.1; have hb0 := X.1.2.1; have hts := X.1.2.2.2.2
  intro M L v1 v3 H locs ls hw hW hl
  unfold wpX9_canGetOwn_41 at hw
  refine lv_iconst (v := (1 : Int32)) hx hb0 dX9_canGetOwn_41 (by decide) ?_
  refine lv_goto (tgt := 46) hx hb0 dX9_canGetOwn_42 (by decide) ?_
  exact mX9_canGetOwn_46 X post hret K4 hK4 M L v1 v3 (1 : Int32) _ _ ls hw hW (lv_sub hl [0, 1, 2] rfl)
set_option maxRecDepth 20000 in
set_option maxHeartbeats 4000000 in
theorem mX9_canGetOwn_45 {p : Program} {l : Launch} {e : Env} {s : State} {m : MethodId} {args : Array Value} {below : List Frame} {meth : Method} {c : Code} {cells slots : Nat} {Q : State → Prop} {D : va_G} {cy : Nat → ClassId} {ad : Nat → Nat} {A : Nat → Prop} (X : zCx p rmX9_canGetOwn s m args c cells slots cX9_canGetOwn 4 RX9 D cy ad A) (post : Int32 → Mm → Ml → Prop) (hret : zRi p l e rmX9_canGetOwn s m args below meth c cells slots Q cX9_canGetOwn D cy ad A .boolean post) (K4 : Mm → Ml → Int32 → Int32 → Int32 → Prop) (hK4 : ∀ (M : Mm) (L : Ml) (v1 : Int32) (v2 : Int32) (v3 : Int32) (H : Heap) (locs : List Loc) (ls : Array Slot), K4 M L v1 v2 v3 → zWd D cy ad A s H locs M L → lv_has ls 4 [(0, .ref (ad 42)), (1, .int v1), (2, .int v2), (3, .int v3)] → W p l e rmX9_canGetOwn s m args below meth c H locs cells slots Q (F0 m 4 ls [])) : ∀ (M : Mm) (L : Ml) (v1 : Int32) (v3 : Int32) (H : Heap) (locs : List Loc) (ls : Array Slot), wpX9_canGetOwn_45 post K4 M L v1 v3 → zWd D cy ad A s H locs M L → lv_has ls 4 [(0, .ref (ad 42)), (1, .int v1), (3, .int v3)] → W p l e rmX9_canGetOwn s m args below meth c H locs cells slots Q (F0 m 45 ls []) := by
  have hx := X.1.1; have hb0 := X.1.2.1; have hts := X.1.2.2.2.2
  intro M L v1 v3 H locs ls hw hW hl
  unfold wpX9_canGetOwn_45 at hw
  refine lv_iconst (v := (0 : Int32)) hx hb0 dX9_canGetOwn_45 (by decide) ?_
  exact mX9_canGetOwn_46 X post hret K4 hK4 M L v1 v3 (0 : Int32) _ _ ls hw hW (lv_sub hl [0, 1, 2] rfl)
set_option maxRecDepth 20000 in
set_option maxHeartbeats 4000000 in
theorem mX9_canGetOwn_4 {p : Program} {l : Launch} {e : Env} {s : State} {m : MethodId} {args : Array Value} {below : List Frame} {meth : Method} {c : Code} {cells slots : Nat} {Q : State → Prop} {D : va_G} {cy : Nat → ClassId} {ad : Nat → Nat} {A : Nat → Prop} (X : zCx p rmX9_canGetOwn s m args c cells slots cX9_canGetOwn 4 RX9 D cy ad A) (post : Int32 → Mm → Ml → Prop) (hret : zRi p l e rmX9_canGetOwn s m args below meth c cells slots Q cX9_canGetOwn D cy ad A .boolean post) : ∀ (j9 : Nat) (M : Mm) (L : Ml) (v1 : Int32) (v2 : Int32) (v3 : Int32) (H : Heap) (locs : List Loc) (ls : Array Slot), wlX9_canGetOwn_4 post j9 (M, L, v1, v2, v3) → zWd D cy ad A s H locs M L → lv_has ls 4 [(0, .ref (ad 42)), (1, .int v1), (2, .int v2), (3, .int v3)] → W p l e rmX9_canGetOwn s m args below meth c H locs cells slots Q (F0 m 4 ls []) := by
  have hx := X.1.1; have hb0 := X.1.2.1; have hts := X.1.2.2.2.2
  intro j9
  induction j9 with
  | zero => intro M L v1 v2 v3 H locs ls hw; exact hw.elim
  | succ j9 ih =>
    obtain ⟨K4, hKe⟩ : ∃ K : Mm → Ml → Int32 → Int32 → Int32 → Prop, K = fun M L v1 v2 v3 => wlX9_canGetOwn_4 post j9 (M, L, v1, v2, v3) := ⟨_, rfl⟩
    have hK4 : ∀ (M : Mm) (L : Ml) (v1 : Int32) (v2 : Int32) (v3 : Int32) (H : Heap) (locs : List Loc) (ls : Array Slot), K4 M L v1 v2 v3 → zWd D cy ad A s H locs M L → lv_has ls 4 [(0, .ref (ad 42)), (1, .int v1), (2, .int v2), (3, .int v3)] → W p l e rmX9_canGetOwn s m args below meth c H locs cells slots Q (F0 m 4 ls []) := by intro M L v1 v2 v3 H locs ls hw; rw [hKe] at hw; exact ih M L v1 v2 v3 H locs ls hw
    intro M L v1 v2 v3 H locs ls hw hW hl
    have hw : wpX9_canGetOwn_4 post K4 M L v1 v2 v3 := by rw [hKe]; exact hw
    clear ih
    unfold wpX9_canGetOwn_4 at hw
    refine lv_iload_n hx hb0 dX9_canGetOwn_4 rfl (lv_at hl 3 rfl) ?_
    refine lv_bipush (v := (8 : Int32)) hx hb0 dX9_canGetOwn_5 (by decide) ?_
    refine lv_icmp_ge (tgt := 53) hx hb0 dX9_canGetOwn_7 (by decide) (fun c_7 => ?_) (fun c_7 => ?_)
    · replace hw := hw.1 c_7
      refine lv_iload_n hx hb0 dX9_canGetOwn_53 rfl (lv_at hl 2 rfl) ?_
      exact hret _ ls _ _ v2 M L dX9_canGetOwn_54 (z_bool hw.1) hw.2 hW
    · replace hw := hw.2 c_7
      refine lv_iload_n hx hb0 dX9_canGetOwn_10 rfl (lv_at hl 2 rfl) ?_
      refine lv_if_ne (tgt := 41) hx hb0 dX9_canGetOwn_11 (by decide) (fun c_11 => ?_) (fun c_11 => ?_)
      · replace hw := hw.1 c_11
        exact mX9_canGetOwn_41 X post hret K4 hK4 M L v1 v3 _ _ ls hw hW (lv_sub hl [0, 1, 3] rfl)
      · replace hw := hw.2 c_11
        refine lv_aload_n hx hb0 dX9_canGetOwn_14 rfl (lv_at hl 0 rfl) ?_
        refine lv_iload_n hx hb0 dX9_canGetOwn_15 rfl (lv_at hl 3 rfl) ?_
        refine z_Vi X zO_42 zC7 zc_X9_isAbove zs_X9_isAbove zl_X9_137 rfl ⟨rfl, rfl⟩ ⟨Nat.le_of_ble_eq_true rfl, Nat.le_of_ble_eq_true rfl⟩ (kX9_isAbove l D cy ad X.2.2.2.1 v3) hW hw hl.1 rfl rfl (Nat.le_of_ble_eq_true rfl) dX9_canGetOwn_16 (fun r_16 M_16 L_16 H_16 locs_16 hw hW => ?_)
        refine lv_if_eq (tgt := 45) hx hb0 dX9_canGetOwn_19 (by decide) (fun c_19 => ?_) (fun c_19 => ?_)
        · replace hw := hw.1 c_19
          exact mX9_canGetOwn_45 X post hret K4 hK4 M_16 L_16 v1 v3 _ _ ls hw hW (lv_sub hl [0, 1, 3] rfl)
        · replace hw := hw.2 c_19
          refine lv_aload_n hx hb0 dX9_canGetOwn_22 rfl (lv_at hl 0 rfl) ?_
          refine z_getR (k2 := 46) X hW zC7 zR_42_4 (by decide) rfl zl_X9_19 dX9_canGetOwn_23 ?_
          refine lv_iload_n hx hb0 dX9_canGetOwn_26 rfl (lv_at hl 3 rfl) ?_
          obtain ⟨g_27, hw⟩ := hw
          refine z_iald X hW zI_46 g_27 dX9_canGetOwn_27 ?_
          refine lv_iload_n hx hb0 dX9_canGetOwn_28 rfl (lv_at hl 1 rfl) ?_
          refine lv_icmp_ne (tgt := 45) hx hb0 dX9_canGetOwn_29 (by decide) (fun c_29 => ?_) (fun c_29 => ?_)
          · replace hw := hw.1 c_29
            exact mX9_canGetOwn_45 X post hret K4 hK4 M_16 L_16 v1 v3 _ _ ls hw hW (lv_sub hl [0, 1, 3] rfl)
          · replace hw := hw.2 c_29
            refine lv_aload_n hx hb0 dX9_canGetOwn_32 rfl (lv_at hl 0 rfl) ?_
            refine lv_iload_n hx hb0 dX9_canGetOwn_33 rfl (lv_at hl 1 rfl) ?_
            refine lv_iload_n hx hb0 dX9_canGetOwn_34 rfl (lv_at hl 3 rfl) ?_
            refine z_Vi X zO_42 zC7 zc_X9_canGet zs_X9_canGet zl_X9_232 rfl ⟨rfl, rfl⟩ ⟨Nat.le_of_ble_eq_true rfl, Nat.le_of_ble_eq_true rfl⟩ (kX9_canGet l D cy ad X.2.2.2.1 v1 v3) hW hw hl.1 rfl rfl (Nat.le_of_ble_eq_true rfl) dX9_canGetOwn_35 (fun r_35 M_35 L_35 H_35 locs_35 hw hW => ?_)
            refine lv_if_eq (tgt := 45) hx hb0 dX9_canGetOwn_38 (by decide) (fun c_38 => ?_) (fun c_38 => ?_)
            · replace hw := hw.1 c_38
              exact mX9_canGetOwn_45 X post hret K4 hK4 M_35 L_35 v1 v3 _ _ ls hw hW (lv_sub hl [0, 1, 3] rfl)
            · replace hw := hw.2 c_38
              exact mX9_canGetOwn_41 X post hret K4 hK4 M_35 L_35 v1 v3 _ _ ls hw hW (lv_sub hl [0, 1, 3] rfl)
set_option maxRecDepth 20000 in
set_option maxHeartbeats 4000000 in
theorem mX9_canGetOwn {p : Program} {l : Launch} {e : Env} {s : State} {m : MethodId} {args : Array Value} {below : List Frame} {meth : Method} {c : Code} {cells slots : Nat} {Q : State → Prop} {D : va_G} {cy : Nat → ClassId} {ad : Nat → Nat} {A : Nat → Prop} (X : zCx p rmX9_canGetOwn s m args c cells slots cX9_canGetOwn 4 RX9 D cy ad A) (post : Int32 → Mm → Ml → Prop) (hret : zRi p l e rmX9_canGetOwn s m args below meth c cells slots Q cX9_canGetOwn D cy ad A .boolean post) : ∀ (M : Mm) (L : Ml) (x1 : Int32) (H : Heap) (locs : List Loc) (ls : Array Slot), wpX9_canGetOwn x1 M L post → zWd D cy ad A s H locs M L → lv_has ls 4 [(0, .ref (ad 42)), (1, .int x1)] → W p l e rmX9_canGetOwn s m args below meth c H locs cells slots Q (F0 m 0 ls []) := by
  have hx := X.1.1; have hb0 := X.1.2.1; have hts := X.1.2.2.2.2
  intro M L x1 H locs ls hw hW hl
  unfold wpX9_canGetOwn at hw
  refine lv_iconst (v := (0 : Int32)) hx hb0 dX9_canGetOwn_0 (by decide) ?_
  refine lv_istore_n (lv' := [(2, .int (0 : Int32)), (0, .ref (ad 42)), (1, .int x1)]) hx hb0 dX9_canGetOwn_1 rfl hl (by decide) rfl (fun ls hl => ?_)
  refine lv_iconst (v := (0 : Int32)) hx hb0 dX9_canGetOwn_2 (by decide) ?_
  refine lv_istore_n (lv' := [(3, .int (0 : Int32)), (2, .int (0 : Int32)), (0, .ref (ad 42)), (1, .int x1)]) hx hb0 dX9_canGetOwn_3 rfl hl (by decide) rfl (fun ls hl => ?_)
  obtain ⟨n_4, hw⟩ := hw
  exact mX9_canGetOwn_4 X post hret n_4 M L x1 (0 : Int32) (0 : Int32) _ _ ls hw hW (lv_sub hl [2, 3, 1, 0] rfl)
theorem kX9_canGetOwn (l : Launch) (D : va_G) (cy : Nat → ClassId) (ad : Nat → Nat) (hi : zInj ad) (x1 : Int32) : zMi l yX9_canGetOwn (.code yX9_canGetOwn cX9_canGetOwn 4 (some .boolean) :: zG) rmX9_canGetOwn D cy ad [.ref (ad 42), .int x1] (wpX9_canGetOwn x1) :=
  zMi_of (by decide +kernel) (Nat.le_of_ble_eq_true rfl) hi (fun X M L post _ hret ls hl hw hW => mX9_canGetOwn X post hret M L x1 _ _ ls hw hW hl)
abbrev rmX9_addFlake : Room := { frames := 4, cells := 0, slots := 0, locals := 90 }
set_option maxRecDepth 20000 in
set_option maxHeartbeats 4000000 in
theorem mX9_addFlake_89 {p : Program} {l : Launch} {e : Env} {s : State} {m : MethodId} {args : Array Value} {below : List Frame} {meth : Method} {c : Code} {cells slots : Nat} {Q : State → Prop} {D : va_G} {cy : Nat → ClassId} {ad : Nat → Nat} {A : Nat → Prop} (X : zCx p rmX9_addFlake s m args c cells slots cX9_addFlake 7 RX9 D cy ad A) (post : Mm → Ml → Prop) (hret : zRv p l e rmX9_addFlake s m args below meth c cells slots Q cX9_addFlake D cy ad A post) (K3 : Mm → Ml → Int32 → Int32 → Prop) (hK3 : ∀ (M : Mm) (L : Ml) (v1 : Int32) (v2 : Int32) (H : Heap) (locs : List Loc) (ls : Array Slot), K3 M L v1 v2 → zWd D cy ad A s H locs M L → lv_has ls 7 [(0, .ref (ad 42)), (1, .int v1), (2, .int v2)] → W p l e rmX9_addFlake s m args below meth c H locs cells slots Q (F0 m 3 ls [])) (K17 : Mm → Ml → Int32 → Int32 → Int32 → Int32 → Prop) (hK17 : ∀ (M : Mm) (L : Ml) (v1 : Int32) (v2 : Int32) (v3 : Int32) (v4 : Int32) (H : Heap) (locs : List Loc) (ls : Array Slot), K17 M L v1 v2 v3 v4 → zWd D cy ad A s H locs M L → lv_has ls 7 [(0, .ref (ad 42)), (1, .int v1), (2, .int v2), (3, .int v3), (4, .int v4)] → W p l e rmX9_addFlake s m args below meth c H locs cells slots Q (F0 m 17 ls [])) : ∀ (M : Mm) (L : Ml) (v1 : Int32) (v2 : Int32) (v4 : Int32) (s0 : Int32) (H : Heap) (locs : List Loc) (ls : Array Slot), wpX9_addFlake_89 post K3 K17 M L v1 v2 v4 s0 → zWd D cy ad A s H locs M L → lv_has ls 7 [(0, .ref (ad 42)), (1, .int v1), (2, .int v2), (4, .int v4)] → W p l e rmX9_addFlake s m args below meth c H locs cells slots Q (F0 m 89 ls [.int s0]) := by
  have hx := X.1.1; have hb0 := X.1.2.1; have hts := X.1.2.2.2.2
  intro M L v1 v2 v4 s0 H locs ls hw hW hl
  unfold wpX9_addFlake_89 at hw
  refine lv_istore_n (lv' := [(3, .int s0), (0, .ref (ad 42)), (1, .int v1), (2, .int v2), (4, .int v4)]) hx hb0 dX9_addFlake_89 rfl hl (by decide) rfl (fun ls hl => ?_)
  obtain ⟨a_90, e_90⟩ : ∃ y : Int32, y = v4 + (1 : Int32) := ⟨_, rfl⟩
  replace hw := hw a_90 e_90
  refine lv_iinc (v := a_90) (lv' := [(4, .int a_90), (3, .int s0), (0, .ref (ad 42)), (1, .int v1), (2, .int v2)]) hx hb0 dX9_addFlake_90 hl (k := 4) rfl (by rw [e_90]; rfl) (by decide) rfl (fun ls hl => ?_)
  refine lv_goto (tgt := 17) hx hb0 dX9_addFlake_93 (by decide) ?_
  exact hK17 M L v1 v2 s0 a_90 _ _ ls hw hW (lv_sub hl [2, 3, 4, 1, 0] rfl)
set_option maxRecDepth 20000 in
set_option maxHeartbeats 4000000 in
theorem mX9_addFlake_75 {p : Program} {l : Launch} {e : Env} {s : State} {m : MethodId} {args : Array Value} {below : List Frame} {meth : Method} {c : Code} {cells slots : Nat} {Q : State → Prop} {D : va_G} {cy : Nat → ClassId} {ad : Nat → Nat} {A : Nat → Prop} (X : zCx p rmX9_addFlake s m args c cells slots cX9_addFlake 7 RX9 D cy ad A) (post : Mm → Ml → Prop) (hret : zRv p l e rmX9_addFlake s m args below meth c cells slots Q cX9_addFlake D cy ad A post) (K3 : Mm → Ml → Int32 → Int32 → Prop) (hK3 : ∀ (M : Mm) (L : Ml) (v1 : Int32) (v2 : Int32) (H : Heap) (locs : List Loc) (ls : Array Slot), K3 M L v1 v2 → zWd D cy ad A s H locs M L → lv_has ls 7 [(0, .ref (ad 42)), (1, .int v1), (2, .int v2)] → W p l e rmX9_addFlake s m args below meth c H locs cells slots Q (F0 m 3 ls [])) (K17 : Mm → Ml → Int32 → Int32 → Int32 → Int32 → Prop) (hK17 : ∀ (M : Mm) (L : Ml) (v1 : Int32) (v2 : Int32) (v3 : Int32) (v4 : Int32) (H : Heap) (locs : List Loc) (ls : Array Slot), K17 M L v1 v2 v3 v4 → zWd D cy ad A s H locs M L → lv_has ls 7 [(0, .ref (ad 42)), (1, .int v1), (2, .int v2), (3, .int v3), (4, .int v4)] → W p l e rmX9_addFlake s m args below meth c H locs cells slots Q (F0 m 17 ls [])) : ∀ (M : Mm) (L : Ml) (v1 : Int32) (v2 : Int32) (v3 : Int32) (v4 : Int32) (s0 : Int32) (H : Heap) (locs : List Loc) (ls : Array Slot), wpX9_addFlake_75 post K3 K17 M L v1 v2 v3 v4 s0 → zWd D cy ad A s H locs M L → lv_has ls 7 [(0, .ref (ad 42)), (1, .int v1), (2, .int v2), (3, .int v3), (4, .int v4)] → W p l e rmX9_addFlake s m args below meth c H locs cells slots Q (F0 m 75 ls [.int s0]) := by
  have hx := X.1.1; have hb0 := X.1.2.1; have hts := X.1.2.2.2.2
  intro M L v1 v2 v3 v4 s0 H locs ls hw hW hl
  unfold wpX9_addFlake_75 at hw
  refine lv_istore (lv' := [(6, .int s0), (0, .ref (ad 42)), (1, .int v1), (2, .int v2), (3, .int v3), (4, .int v4)]) hx hb0 dX9_addFlake_75 hl (by decide) rfl (fun ls hl => ?_)
  refine lv_iload hx hb0 dX9_addFlake_77 (lv_at hl 0 rfl) ?_
  refine lv_iload_n hx hb0 dX9_addFlake_79 rfl (lv_at hl 4 rfl) ?_
  refine lv_icmp_le (tgt := 88) hx hb0 dX9_addFlake_80 (by decide) (fun c_80 => ?_) (fun c_80 => ?_)
  · replace hw := hw.1 c_80
    refine lv_iload_n hx hb0 dX9_addFlake_88 rfl (lv_at hl 4 rfl) ?_
    exact mX9_addFlake_89 X post hret K3 hK3 K17 hK17 M L v1 v2 v4 v3 _ _ ls hw hW (lv_sub hl [1, 2, 3, 5] rfl)
  · replace hw := hw.2 c_80
    refine lv_iload hx hb0 dX9_addFlake_83 (lv_at hl 0 rfl) ?_
    refine lv_goto (tgt := 89) hx hb0 dX9_addFlake_85 (by decide) ?_
    exact mX9_addFlake_89 X post hret K3 hK3 K17 hK17 M L v1 v2 v4 s0 _ _ ls hw hW (lv_sub hl [1, 2, 3, 5] rfl)
set_option maxRecDepth 20000 in
set_option maxHeartbeats 4000000 in
theorem mX9_addFlake_49 {p : Program} {l : Launch} {e : Env} {s : State} {m : MethodId} {args : Array Value} {below : List Frame} {meth : Method} {c : Code} {cells slots : Nat} {Q : State → Prop} {D : va_G} {cy : Nat → ClassId} {ad : Nat → Nat} {A : Nat → Prop} (X : zCx p rmX9_addFlake s m args c cells slots cX9_addFlake 7 RX9 D cy ad A) (post : Mm → Ml → Prop) (hret : zRv p l e rmX9_addFlake s m args below meth c cells slots Q cX9_addFlake D cy ad A post) (K3 : Mm → Ml → Int32 → Int32 → Prop) (hK3 : ∀ (M : Mm) (L : Ml) (v1 : Int32) (v2 : Int32) (H : Heap) (locs : List Loc) (ls : Array Slot), K3 M L v1 v2 → zWd D cy ad A s H locs M L → lv_has ls 7 [(0, .ref (ad 42)), (1, .int v1), (2, .int v2)] → W p l e rmX9_addFlake s m args below meth c H locs cells slots Q (F0 m 3 ls [])) (K17 : Mm → Ml → Int32 → Int32 → Int32 → Int32 → Prop) (hK17 : ∀ (M : Mm) (L : Ml) (v1 : Int32) (v2 : Int32) (v3 : Int32) (v4 : Int32) (H : Heap) (locs : List Loc) (ls : Array Slot), K17 M L v1 v2 v3 v4 → zWd D cy ad A s H locs M L → lv_has ls 7 [(0, .ref (ad 42)), (1, .int v1), (2, .int v2), (3, .int v3), (4, .int v4)] → W p l e rmX9_addFlake s m args below meth c H locs cells slots Q (F0 m 17 ls [])) : ∀ (M : Mm) (L : Ml) (v1 : Int32) (v2 : Int32) (v3 : Int32) (v4 : Int32) (s0 : Int32) (H : Heap) (locs : List Loc) (ls : Array Slot), wpX9_addFlake_49 post K3 K17 M L v1 v2 v3 v4 s0 → zWd D cy ad A s H locs M L → lv_has ls 7 [(0, .ref (ad 42)), (1, .int v1), (2, .int v2), (3, .int v3), (4, .int v4)] → W p l e rmX9_addFlake s m args below meth c H locs cells slots Q (F0 m 49 ls [.int s0]) := by
  have hx := X.1.1; have hb0 := X.1.2.1; have hts := X.1.2.2.2.2
  intro M L v1 v2 v3 v4 s0 H locs ls hw hW hl
  unfold wpX9_addFlake_49 at hw
  refine lv_istore (lv' := [(5, .int s0), (0, .ref (ad 42)), (1, .int v1), (2, .int v2), (3, .int v3), (4, .int v4)]) hx hb0 dX9_addFlake_49 hl (by decide) rfl (fun ls hl => ?_)
  refine lv_iload hx hb0 dX9_addFlake_51 (lv_at hl 0 rfl) ?_
  refine lv_if_eq (tgt := 74) hx hb0 dX9_addFlake_53 (by decide) (fun c_53 => ?_) (fun c_53 => ?_)
  · replace hw := hw.1 c_53
    refine lv_iconst (v := (0 : Int32)) hx hb0 dX9_addFlake_74 (by decide) ?_
    exact mX9_addFlake_75 X post hret K3 hK3 K17 hK17 M L v1 v2 v3 v4 (0 : Int32) _ _ ls hw hW (lv_sub hl [1, 2, 3, 4, 5] rfl)
  · replace hw := hw.2 c_53
    refine lv_aload_n hx hb0 dX9_addFlake_56 rfl (lv_at hl 1 rfl) ?_
    refine z_getR (k2 := 59) X hW zC7 zR_42_25 (by decide) rfl zl_X9_59 dX9_addFlake_57 ?_
    refine lv_iload_n hx hb0 dX9_addFlake_60 rfl (lv_at hl 3 rfl) ?_
    refine lv_iconst (v := (1 : Int32)) hx hb0 dX9_addFlake_61 (by decide) ?_
    refine lv_iload hx hb0 dX9_addFlake_62 (lv_at hl 5 rfl) ?_
    refine lv_ishl hx hb0 dX9_addFlake_64 ?_
    refine lv_iconst (v := (-1 : Int32)) hx hb0 dX9_addFlake_65 (by decide) ?_
    refine lv_ixor hx hb0 dX9_addFlake_66 ?_
    refine lv_iand hx hb0 dX9_addFlake_67 ?_
    obtain ⟨g_68, hw⟩ := hw
    refine z_iald X hW zI_59 g_68 dX9_addFlake_68 ?_
    refine lv_iconst (v := (1 : Int32)) hx hb0 dX9_addFlake_69 (by decide) ?_
    refine lv_iadd hx hb0 dX9_addFlake_70 ?_
    refine lv_goto (tgt := 75) hx hb0 dX9_addFlake_71 (by decide) ?_
    exact mX9_addFlake_75 X post hret K3 hK3 K17 hK17 M L v1 v2 v3 v4 ((M 59 (v2 &&& (((1 : Int32) <<< (v4 &&& 31)) ^^^ (-1 : Int32))).toNatClampNeg) + (1 : Int32)) _ _ ls hw hW (lv_sub hl [1, 2, 3, 4, 5] rfl)
set_option maxRecDepth 20000 in
set_option maxHeartbeats 4000000 in
theorem mX9_addFlake_48 {p : Program} {l : Launch} {e : Env} {s : State} {m : MethodId} {args : Array Value} {below : List Frame} {meth : Method} {c : Code} {cells slots : Nat} {Q : State → Prop} {D : va_G} {cy : Nat → ClassId} {ad : Nat → Nat} {A : Nat → Prop} (X : zCx p rmX9_addFlake s m args c cells slots cX9_addFlake 7 RX9 D cy ad A) (post : Mm → Ml → Prop) (hret : zRv p l e rmX9_addFlake s m args below meth c cells slots Q cX9_addFlake D cy ad A post) (K3 : Mm → Ml → Int32 → Int32 → Prop) (hK3 : ∀ (M : Mm) (L : Ml) (v1 : Int32) (v2 : Int32) (H : Heap) (locs : List Loc) (ls : Array Slot), K3 M L v1 v2 → zWd D cy ad A s H locs M L → lv_has ls 7 [(0, .ref (ad 42)), (1, .int v1), (2, .int v2)] → W p l e rmX9_addFlake s m args below meth c H locs cells slots Q (F0 m 3 ls [])) (K17 : Mm → Ml → Int32 → Int32 → Int32 → Int32 → Prop) (hK17 : ∀ (M : Mm) (L : Ml) (v1 : Int32) (v2 : Int32) (v3 : Int32) (v4 : Int32) (H : Heap) (locs : List Loc) (ls : Array Slot), K17 M L v1 v2 v3 v4 → zWd D cy ad A s H locs M L → lv_has ls 7 [(0, .ref (ad 42)), (1, .int v1), (2, .int v2), (3, .int v3), (4, .int v4)] → W p l e rmX9_addFlake s m args below meth c H locs cells slots Q (F0 m 17 ls [])) : ∀ (M : Mm) (L : Ml) (v1 : Int32) (v2 : Int32) (v3 : Int32) (v4 : Int32) (H : Heap) (locs : List Loc) (ls : Array Slot), wpX9_addFlake_48 post K3 K17 M L v1 v2 v3 v4 → zWd D cy ad A s H locs M L → lv_has ls 7 [(0, .ref (ad 42)), (1, .int v1), (2, .int v2), (3, .int v3), (4, .int v4)] → W p l e rmX9_addFlake s m args below meth c H locs cells slots Q (F0 m 48 ls []) := by
  have hx := X.1.1; have hb0 := X.1.2.1; have hts := X.1.2.2.2.2
  intro M L v1 v2 v3 v4 H locs ls hw hW hl
  unfold wpX9_addFlake_48 at hw
  refine lv_iconst (v := (0 : Int32)) hx hb0 dX9_addFlake_48 (by decide) ?_
  exact mX9_addFlake_49 X post hret K3 hK3 K17 hK17 M L v1 v2 v3 v4 (0 : Int32) _ _ ls hw hW (lv_sub hl [0, 1, 2, 3, 4] rfl)
set_option maxRecDepth 20000 in
set_option maxHeartbeats 4000000 in
theorem mX9_addFlake_17 {p : Program} {l : Launch} {e : Env} {s : State} {m : MethodId} {args : Array Value} {below : List Frame} {meth : Method} {c : Code} {cells slots : Nat} {Q : State → Prop} {D : va_G} {cy : Nat → ClassId} {ad : Nat → Nat} {A : Nat → Prop} (X : zCx p rmX9_addFlake s m args c cells slots cX9_addFlake 7 RX9 D cy ad A) (post : Mm → Ml → Prop) (hret : zRv p l e rmX9_addFlake s m args below meth c cells slots Q cX9_addFlake D cy ad A post) (K3 : Mm → Ml → Int32 → Int32 → Prop) (hK3 : ∀ (M : Mm) (L : Ml) (v1 : Int32) (v2 : Int32) (H : Heap) (locs : List Loc) (ls : Array Slot), K3 M L v1 v2 → zWd D cy ad A s H locs M L → lv_has ls 7 [(0, .ref (ad 42)), (1, .int v1), (2, .int v2)] → W p l e rmX9_addFlake s m args below meth c H locs cells slots Q (F0 m 3 ls [])) : ∀ (j9 : Nat) (M : Mm) (L : Ml) (v1 : Int32) (v2 : Int32) (v3 : Int32) (v4 : Int32) (H : Heap) (locs : List Loc) (ls : Array Slot), wlX9_addFlake_17 post K3 j9 (M, L, v1, v2, v3, v4) → zWd D cy ad A s H locs M L → lv_has ls 7 [(0, .ref (ad 42)), (1, .int v1), (2, .int v2), (3, .int v3), (4, .int v4)] → W p l e rmX9_addFlake s m args below meth c H locs cells slots Q (F0 m 17 ls []) := by
  have hx := X.1.1; have hb0 := X.1.2.1; have hts := X.1.2.2.2.2
  intro j9
  induction j9 with
  | zero => intro M L v1 v2 v3 v4 H locs ls hw; exact hw.elim
  | succ j9 ih =>
    obtain ⟨K17, hKe⟩ : ∃ K : Mm → Ml → Int32 → Int32 → Int32 → Int32 → Prop, K = fun M L v1 v2 v3 v4 => wlX9_addFlake_17 post K3 j9 (M, L, v1, v2, v3, v4) := ⟨_, rfl⟩
    have hK17 : ∀ (M : Mm) (L : Ml) (v1 : Int32) (v2 : Int32) (v3 : Int32) (v4 : Int32) (H : Heap) (locs : List Loc) (ls : Array Slot), K17 M L v1 v2 v3 v4 → zWd D cy ad A s H locs M L → lv_has ls 7 [(0, .ref (ad 42)), (1, .int v1), (2, .int v2), (3, .int v3), (4, .int v4)] → W p l e rmX9_addFlake s m args below meth c H locs cells slots Q (F0 m 17 ls []) := by intro M L v1 v2 v3 v4 H locs ls hw; rw [hKe] at hw; exact ih M L v1 v2 v3 v4 H locs ls hw
    intro M L v1 v2 v3 v4 H locs ls hw hW hl
    have hw : wpX9_addFlake_17 post K3 K17 M L v1 v2 v3 v4 := by rw [hKe]; exact hw
    clear ih
    unfold wpX9_addFlake_17 at hw
    refine lv_iload hx hb0 dX9_addFlake_17 (lv_at hl 4 rfl) ?_
    refine lv_bipush (v := (6 : Int32)) hx hb0 dX9_addFlake_19 (by decide) ?_
    refine lv_icmp_ge (tgt := 96) hx hb0 dX9_addFlake_21 (by decide) (fun c_21 => ?_) (fun c_21 => ?_)
    · replace hw := hw.1 c_21
      refine lv_aload_n hx hb0 dX9_addFlake_96 rfl (lv_at hl 0 rfl) ?_
      refine z_getR (k2 := 59) X hW zC7 zR_42_25 (by decide) rfl zl_X9_59 dX9_addFlake_97 ?_
      refine lv_iload_n hx hb0 dX9_addFlake_100 rfl (lv_at hl 2 rfl) ?_
      refine lv_iload_n hx hb0 dX9_addFlake_101 rfl (lv_at hl 3 rfl) ?_
      obtain ⟨g_102, hw⟩ := hw
      refine z_iast X hW zI_59 g_102 dX9_addFlake_102 (fun M_102 H_102 locs_102 e_102 hW => ?_)
      replace hw := hw M_102 e_102
      obtain ⟨a_103, e_103⟩ : ∃ y : Int32, y = v2 + (-1 : Int32) := ⟨_, rfl⟩
      replace hw := hw a_103 e_103
      refine lv_iinc (v := a_103) (lv' := [(2, .int a_103), (0, .ref (ad 42)), (1, .int v1), (3, .int v3), (4, .int v4)]) hx hb0 dX9_addFlake_103 hl (k := 2) rfl (by rw [e_103]; rfl) (by decide) rfl (fun ls hl => ?_)
      refine lv_goto (tgt := 3) hx hb0 dX9_addFlake_106 (by decide) ?_
      exact hK3 M_102 L v1 a_103 _ _ ls hw hW (lv_sub hl [1, 2, 0] rfl)
    · replace hw := hw.2 c_21
      refine lv_iload_n hx hb0 dX9_addFlake_24 rfl (lv_at hl 2 rfl) ?_
      refine lv_iload hx hb0 dX9_addFlake_25 (lv_at hl 4 rfl) ?_
      refine lv_ishr hx hb0 dX9_addFlake_27 ?_
      refine lv_iconst (v := (1 : Int32)) hx hb0 dX9_addFlake_28 (by decide) ?_
      refine lv_iand hx hb0 dX9_addFlake_29 ?_
      refine lv_iconst (v := (1 : Int32)) hx hb0 dX9_addFlake_30 (by decide) ?_
      refine lv_icmp_ne (tgt := 48) hx hb0 dX9_addFlake_31 (by decide) (fun c_31 => ?_) (fun c_31 => ?_)
      · replace hw := hw.1 c_31
        exact mX9_addFlake_48 X post hret K3 hK3 K17 hK17 M L v1 v2 v3 v4 _ _ ls hw hW (lv_sub hl [0, 1, 2, 3, 4] rfl)
      · replace hw := hw.2 c_31
        refine lv_aload_n hx hb0 dX9_addFlake_34 rfl (lv_at hl 0 rfl) ?_
        refine lv_iload hx hb0 dX9_addFlake_35 (lv_at hl 4 rfl) ?_
        refine lv_iload_n hx hb0 dX9_addFlake_37 rfl (lv_at hl 1 rfl) ?_
        refine z_Vi X zO_42 zC7 zc_X9_canGet zs_X9_canGet zl_X9_232 rfl ⟨rfl, rfl⟩ ⟨Nat.le_of_ble_eq_true rfl, Nat.le_of_ble_eq_true rfl⟩ (kX9_canGet l D cy ad X.2.2.2.1 v4 v1) hW hw hl.1 rfl rfl (Nat.le_of_ble_eq_true rfl) dX9_addFlake_38 (fun r_38 M_38 L_38 H_38 locs_38 hw hW => ?_)
        refine lv_if_eq (tgt := 48) hx hb0 dX9_addFlake_41 (by decide) (fun c_41 => ?_) (fun c_41 => ?_)
        · replace hw := hw.1 c_41
          exact mX9_addFlake_48 X post hret K3 hK3 K17 hK17 M_38 L_38 v1 v2 v3 v4 _ _ ls hw hW (lv_sub hl [0, 1, 2, 3, 4] rfl)
        · replace hw := hw.2 c_41
          refine lv_iconst (v := (1 : Int32)) hx hb0 dX9_addFlake_44 (by decide) ?_
          refine lv_goto (tgt := 49) hx hb0 dX9_addFlake_45 (by decide) ?_
          exact mX9_addFlake_49 X post hret K3 hK3 K17 hK17 M_38 L_38 v1 v2 v3 v4 (1 : Int32) _ _ ls hw hW (lv_sub hl [0, 1, 2, 3, 4] rfl)
set_option maxRecDepth 20000 in
set_option maxHeartbeats 4000000 in
theorem mX9_addFlake_3 {p : Program} {l : Launch} {e : Env} {s : State} {m : MethodId} {args : Array Value} {below : List Frame} {meth : Method} {c : Code} {cells slots : Nat} {Q : State → Prop} {D : va_G} {cy : Nat → ClassId} {ad : Nat → Nat} {A : Nat → Prop} (X : zCx p rmX9_addFlake s m args c cells slots cX9_addFlake 7 RX9 D cy ad A) (post : Mm → Ml → Prop) (hret : zRv p l e rmX9_addFlake s m args below meth c cells slots Q cX9_addFlake D cy ad A post) : ∀ (j9 : Nat) (M : Mm) (L : Ml) (v1 : Int32) (v2 : Int32) (H : Heap) (locs : List Loc) (ls : Array Slot), wlX9_addFlake_3 post j9 (M, L, v1, v2) → zWd D cy ad A s H locs M L → lv_has ls 7 [(0, .ref (ad 42)), (1, .int v1), (2, .int v2)] → W p l e rmX9_addFlake s m args below meth c H locs cells slots Q (F0 m 3 ls []) := by
  have hx := X.1.1; have hb0 := X.1.2.1; have hts := X.1.2.2.2.2
  intro j9
  induction j9 with
  | zero => intro M L v1 v2 H locs ls hw; exact hw.elim
  | succ j9 ih =>
    obtain ⟨K3, hKe⟩ : ∃ K : Mm → Ml → Int32 → Int32 → Prop, K = fun M L v1 v2 => wlX9_addFlake_3 post j9 (M, L, v1, v2) := ⟨_, rfl⟩
    have hK3 : ∀ (M : Mm) (L : Ml) (v1 : Int32) (v2 : Int32) (H : Heap) (locs : List Loc) (ls : Array Slot), K3 M L v1 v2 → zWd D cy ad A s H locs M L → lv_has ls 7 [(0, .ref (ad 42)), (1, .int v1), (2, .int v2)] → W p l e rmX9_addFlake s m args below meth c H locs cells slots Q (F0 m 3 ls []) := by intro M L v1 v2 H locs ls hw; rw [hKe] at hw; exact ih M L v1 v2 H locs ls hw
    intro M L v1 v2 H locs ls hw hW hl
    have hw : wpX9_addFlake_3 post K3 M L v1 v2 := by rw [hKe]; exact hw
    clear ih
    unfold wpX9_addFlake_3 at hw
    refine lv_iload_n hx hb0 dX9_addFlake_3 rfl (lv_at hl 2 rfl) ?_
    refine lv_if_le (tgt := 109) hx hb0 dX9_addFlake_4 (by decide) (fun c_4 => ?_) (fun c_4 => ?_)
    · replace hw := hw.1 c_4
      exact hret _ ls _ _ M L dX9_addFlake_109 hw hW
    · replace hw := hw.2 c_4
      refine lv_aload_n hx hb0 dX9_addFlake_7 rfl (lv_at hl 0 rfl) ?_
      refine z_getR (k2 := 59) X hW zC7 zR_42_25 (by decide) rfl zl_X9_59 dX9_addFlake_8 ?_
      refine lv_iload_n hx hb0 dX9_addFlake_11 rfl (lv_at hl 2 rfl) ?_
      obtain ⟨g_12, hw⟩ := hw
      refine z_iald X hW zI_59 g_12 dX9_addFlake_12 ?_
      refine lv_topi (fun a_13 e_13 => ?_)
      replace hw := hw a_13 e_13
      refine lv_istore_n (lv' := [(3, .int a_13), (0, .ref (ad 42)), (1, .int v1), (2, .int v2)]) hx hb0 dX9_addFlake_13 rfl hl (by decide) rfl (fun ls hl => ?_)
      refine lv_iconst (v := (0 : Int32)) hx hb0 dX9_addFlake_14 (by decide) ?_
      refine lv_istore (lv' := [(4, .int (0 : Int32)), (3, .int a_13), (0, .ref (ad 42)), (1, .int v1), (2, .int v2)]) hx hb0 dX9_addFlake_15 hl (by decide) rfl (fun ls hl => ?_)
      obtain ⟨n_17, hw⟩ := hw
      exact mX9_addFlake_17 X post hret K3 hK3 n_17 M L v1 v2 a_13 (0 : Int32) _ _ ls hw hW (lv_sub hl [2, 3, 4, 1, 0] rfl)
set_option maxRecDepth 20000 in
set_option maxHeartbeats 4000000 in
theorem mX9_addFlake {p : Program} {l : Launch} {e : Env} {s : State} {m : MethodId} {args : Array Value} {below : List Frame} {meth : Method} {c : Code} {cells slots : Nat} {Q : State → Prop} {D : va_G} {cy : Nat → ClassId} {ad : Nat → Nat} {A : Nat → Prop} (X : zCx p rmX9_addFlake s m args c cells slots cX9_addFlake 7 RX9 D cy ad A) (post : Mm → Ml → Prop) (hret : zRv p l e rmX9_addFlake s m args below meth c cells slots Q cX9_addFlake D cy ad A post) : ∀ (M : Mm) (L : Ml) (x1 : Int32) (H : Heap) (locs : List Loc) (ls : Array Slot), wpX9_addFlake x1 M L post → zWd D cy ad A s H locs M L → lv_has ls 7 [(0, .ref (ad 42)), (1, .int x1)] → W p l e rmX9_addFlake s m args below meth c H locs cells slots Q (F0 m 0 ls []) := by
  have hx := X.1.1; have hb0 := X.1.2.1; have hts := X.1.2.2.2.2
  intro M L x1 H locs ls hw hW hl
  unfold wpX9_addFlake at hw
  refine lv_bipush (v := (63 : Int32)) hx hb0 dX9_addFlake_0 (by decide) ?_
  refine lv_istore_n (lv' := [(2, .int (63 : Int32)), (0, .ref (ad 42)), (1, .int x1)]) hx hb0 dX9_addFlake_2 rfl hl (by decide) rfl (fun ls hl => ?_)
  obtain ⟨n_3, hw⟩ := hw
  exact mX9_addFlake_3 X post hret n_3 M L x1 (63 : Int32) _ _ ls hw hW (lv_sub hl [1, 2, 0] rfl)
theorem kX9_addFlake (l : Launch) (D : va_G) (cy : Nat → ClassId) (ad : Nat → Nat) (hi : zInj ad) (x1 : Int32) : zMv l yX9_addFlake (.code yX9_addFlake cX9_addFlake 7 none :: zG) rmX9_addFlake D cy ad [.ref (ad 42), .int x1] (wpX9_addFlake x1) :=
  zMv_of (by decide +kernel) (Nat.le_of_ble_eq_true rfl) hi (fun X M L post _ hret ls hl hw hW => mX9_addFlake X post hret M L x1 _ _ ls hw hW hl)
abbrev rmX9_most : Room := { frames := 5, cells := 0, slots := 0, locals := 116 }
set_option maxRecDepth 20000 in
set_option maxHeartbeats 4000000 in
theorem mX9_most_41 {p : Program} {l : Launch} {e : Env} {s : State} {m : MethodId} {args : Array Value} {below : List Frame} {meth : Method} {c : Code} {cells slots : Nat} {Q : State → Prop} {D : va_G} {cy : Nat → ClassId} {ad : Nat → Nat} {A : Nat → Prop} (X : zCx p rmX9_most s m args c cells slots cX9_most 4 RX9 D cy ad A) (post : Int32 → Mm → Ml → Prop) (hret : zRi p l e rmX9_most s m args below meth c cells slots Q cX9_most D cy ad A .int post) (K21 : Mm → Ml → Int32 → Int32 → Prop) (hK21 : ∀ (M : Mm) (L : Ml) (v2 : Int32) (v3 : Int32) (H : Heap) (locs : List Loc) (ls : Array Slot), K21 M L v2 v3 → zWd D cy ad A s H locs M L → lv_has ls 4 [(0, .ref (ad 42)), (2, .int v2), (3, .int v3)] → W p l e rmX9_most s m args below meth c H locs cells slots Q (F0 m 21 ls [])) : ∀ (M : Mm) (L : Ml) (v3 : Int32) (s0 : Int32) (s1 : Int32) (H : Heap) (locs : List Loc) (ls : Array Slot), wpX9_most_41 post K21 M L v3 s0 s1 → zWd D cy ad A s H locs M L → lv_has ls 4 [(0, .ref (ad 42)), (3, .int v3)] → W p l e rmX9_most s m args below meth c H locs cells slots Q (F0 m 41 ls [.int s0, .int s1]) := by
  have hx := X.1.1; have hb0 := X.1.2.1; have hts := X.1.2.2.2.2
  intro M L v3 s0 s1 H locs ls hw hW hl
  unfold wpX9_most_41 at hw
  refine lv_iadd hx hb0 dX9_most_41 ?_
  refine lv_topi (fun a_42 e_42 => ?_)
  replace hw := hw a_42 e_42
  refine lv_istore_n (lv' := [(2, .int a_42), (0, .ref (ad 42)), (3, .int v3)]) hx hb0 dX9_most_42 rfl hl (by decide) rfl (fun ls hl => ?_)
  obtain ⟨a_43, e_43⟩ : ∃ y : Int32, y = v3 + (1 : Int32) := ⟨_, rfl⟩
  replace hw := hw a_43 e_43
  refine lv_iinc (v := a_43) (lv' := [(3, .int a_43), (2, .int a_42), (0, .ref (ad 42))]) hx hb0 dX9_most_43 hl (k := 2) rfl (by rw [e_43]; rfl) (by decide) rfl (fun ls hl => ?_)
  refine lv_goto (tgt := 21) hx hb0 dX9_most_46 (by decide) ?_
  exact hK21 M L a_42 a_43 _ _ ls hw hW (lv_sub hl [2, 1, 0] rfl)
set_option maxRecDepth 20000 in
set_option maxHeartbeats 4000000 in
theorem mX9_most_21 {p : Program} {l : Launch} {e : Env} {s : State} {m : MethodId} {args : Array Value} {below : List Frame} {meth : Method} {c : Code} {cells slots : Nat} {Q : State → Prop} {D : va_G} {cy : Nat → ClassId} {ad : Nat → Nat} {A : Nat → Prop} (X : zCx p rmX9_most s m args c cells slots cX9_most 4 RX9 D cy ad A) (post : Int32 → Mm → Ml → Prop) (hret : zRi p l e rmX9_most s m args below meth c cells slots Q cX9_most D cy ad A .int post) : ∀ (j9 : Nat) (M : Mm) (L : Ml) (v2 : Int32) (v3 : Int32) (H : Heap) (locs : List Loc) (ls : Array Slot), wlX9_most_21 post j9 (M, L, v2, v3) → zWd D cy ad A s H locs M L → lv_has ls 4 [(0, .ref (ad 42)), (2, .int v2), (3, .int v3)] → W p l e rmX9_most s m args below meth c H locs cells slots Q (F0 m 21 ls []) := by
  have hx := X.1.1; have hb0 := X.1.2.1; have hts := X.1.2.2.2.2
  intro j9
  induction j9 with
  | zero => intro M L v2 v3 H locs ls hw; exact hw.elim
  | succ j9 ih =>
    obtain ⟨K21, hKe⟩ : ∃ K : Mm → Ml → Int32 → Int32 → Prop, K = fun M L v2 v3 => wlX9_most_21 post j9 (M, L, v2, v3) := ⟨_, rfl⟩
    have hK21 : ∀ (M : Mm) (L : Ml) (v2 : Int32) (v3 : Int32) (H : Heap) (locs : List Loc) (ls : Array Slot), K21 M L v2 v3 → zWd D cy ad A s H locs M L → lv_has ls 4 [(0, .ref (ad 42)), (2, .int v2), (3, .int v3)] → W p l e rmX9_most s m args below meth c H locs cells slots Q (F0 m 21 ls []) := by intro M L v2 v3 H locs ls hw; rw [hKe] at hw; exact ih M L v2 v3 H locs ls hw
    intro M L v2 v3 H locs ls hw hW hl
    have hw : wpX9_most_21 post K21 M L v2 v3 := by rw [hKe]; exact hw
    clear ih
    unfold wpX9_most_21 at hw
    refine lv_iload_n hx hb0 dX9_most_21 rfl (lv_at hl 2 rfl) ?_
    refine lv_bipush (v := (6 : Int32)) hx hb0 dX9_most_22 (by decide) ?_
    refine lv_icmp_ge (tgt := 49) hx hb0 dX9_most_24 (by decide) (fun c_24 => ?_) (fun c_24 => ?_)
    · replace hw := hw.1 c_24
      refine lv_iload_n hx hb0 dX9_most_49 rfl (lv_at hl 1 rfl) ?_
      exact hret _ ls _ _ v2 M L dX9_most_50 rfl hw hW
    · replace hw := hw.2 c_24
      refine lv_iload_n hx hb0 dX9_most_27 rfl (lv_at hl 1 rfl) ?_
      refine lv_aload_n hx hb0 dX9_most_28 rfl (lv_at hl 0 rfl) ?_
      refine lv_iload_n hx hb0 dX9_most_29 rfl (lv_at hl 2 rfl) ?_
      refine z_Vi X zO_42 zC7 zc_X9_canGetOwn zs_X9_canGetOwn zl_X9_236 rfl ⟨rfl, rfl⟩ ⟨Nat.le_of_ble_eq_true rfl, Nat.le_of_ble_eq_true rfl⟩ (kX9_canGetOwn l D cy ad X.2.2.2.1 v3) hW hw hl.1 rfl rfl (Nat.le_of_ble_eq_true rfl) dX9_most_30 (fun r_30 M_30 L_30 H_30 locs_30 hw hW => ?_)
      refine lv_if_eq (tgt := 40) hx hb0 dX9_most_33 (by decide) (fun c_33 => ?_) (fun c_33 => ?_)
      · replace hw := hw.1 c_33
        refine lv_iconst (v := (0 : Int32)) hx hb0 dX9_most_40 (by decide) ?_
        exact mX9_most_41 X post hret K21 hK21 M_30 L_30 v3 (0 : Int32) v2 _ _ ls hw hW (lv_sub hl [0, 2] rfl)
      · replace hw := hw.2 c_33
        refine lv_iconst (v := (1 : Int32)) hx hb0 dX9_most_36 (by decide) ?_
        refine lv_goto (tgt := 41) hx hb0 dX9_most_37 (by decide) ?_
        exact mX9_most_41 X post hret K21 hK21 M_30 L_30 v3 (1 : Int32) v2 _ _ ls hw hW (lv_sub hl [0, 2] rfl)
set_option maxRecDepth 20000 in
set_option maxHeartbeats 4000000 in
theorem mX9_most_93 {p : Program} {l : Launch} {e : Env} {s : State} {m : MethodId} {args : Array Value} {below : List Frame} {meth : Method} {c : Code} {cells slots : Nat} {Q : State → Prop} {D : va_G} {cy : Nat → ClassId} {ad : Nat → Nat} {A : Nat → Prop} (X : zCx p rmX9_most s m args c cells slots cX9_most 4 RX9 D cy ad A) (post : Int32 → Mm → Ml → Prop) (hret : zRi p l e rmX9_most s m args below meth c cells slots Q cX9_most D cy ad A .int post) (K74 : Mm → Ml → Int32 → Prop) (hK74 : ∀ (M : Mm) (L : Ml) (v2 : Int32) (H : Heap) (locs : List Loc) (ls : Array Slot), K74 M L v2 → zWd D cy ad A s H locs M L → lv_has ls 4 [(0, .ref (ad 42)), (2, .int v2)] → W p l e rmX9_most s m args below meth c H locs cells slots Q (F0 m 74 ls [])) : ∀ (M : Mm) (L : Ml) (v2 : Int32) (H : Heap) (locs : List Loc) (ls : Array Slot), wpX9_most_93 post K74 M L v2 → zWd D cy ad A s H locs M L → lv_has ls 4 [(0, .ref (ad 42)), (2, .int v2)] → W p l e rmX9_most s m args below meth c H locs cells slots Q (F0 m 93 ls []) := by
  have hx := X.1.1; have hb0 := X.1.2.1; have hts := X.1.2.2.2.2
  intro M L v2 H locs ls hw hW hl
  unfold wpX9_most_93 at hw
  obtain ⟨a_93, e_93⟩ : ∃ y : Int32, y = v2 + (1 : Int32) := ⟨_, rfl⟩
  replace hw := hw a_93 e_93
  refine lv_iinc (v := a_93) (lv' := [(2, .int a_93), (0, .ref (ad 42))]) hx hb0 dX9_most_93 hl (k := 1) rfl (by rw [e_93]; rfl) (by decide) rfl (fun ls hl => ?_)
  refine lv_goto (tgt := 74) hx hb0 dX9_most_96 (by decide) ?_
  exact hK74 M L a_93 _ _ ls hw hW (lv_sub hl [1, 0] rfl)
set_option maxRecDepth 20000 in
set_option maxHeartbeats 4000000 in
theorem mX9_most_74 {p : Program} {l : Launch} {e : Env} {s : State} {m : MethodId} {args : Array Value} {below : List Frame} {meth : Method} {c : Code} {cells slots : Nat} {Q : State → Prop} {D : va_G} {cy : Nat → ClassId} {ad : Nat → Nat} {A : Nat → Prop} (X : zCx p rmX9_most s m args c cells slots cX9_most 4 RX9 D cy ad A) (post : Int32 → Mm → Ml → Prop) (hret : zRi p l e rmX9_most s m args below meth c cells slots Q cX9_most D cy ad A .int post) : ∀ (j9 : Nat) (M : Mm) (L : Ml) (v2 : Int32) (H : Heap) (locs : List Loc) (ls : Array Slot), wlX9_most_74 post j9 (M, L, v2) → zWd D cy ad A s H locs M L → lv_has ls 4 [(0, .ref (ad 42)), (2, .int v2)] → W p l e rmX9_most s m args below meth c H locs cells slots Q (F0 m 74 ls []) := by
  have hx := X.1.1; have hb0 := X.1.2.1; have hts := X.1.2.2.2.2
  intro j9
  induction j9 with
  | zero => intro M L v2 H locs ls hw; exact hw.elim
  | succ j9 ih =>
    obtain ⟨K74, hKe⟩ : ∃ K : Mm → Ml → Int32 → Prop, K = fun M L v2 => wlX9_most_74 post j9 (M, L, v2) := ⟨_, rfl⟩
    have hK74 : ∀ (M : Mm) (L : Ml) (v2 : Int32) (H : Heap) (locs : List Loc) (ls : Array Slot), K74 M L v2 → zWd D cy ad A s H locs M L → lv_has ls 4 [(0, .ref (ad 42)), (2, .int v2)] → W p l e rmX9_most s m args below meth c H locs cells slots Q (F0 m 74 ls []) := by intro M L v2 H locs ls hw; rw [hKe] at hw; exact ih M L v2 H locs ls hw
    intro M L v2 H locs ls hw hW hl
    have hw : wpX9_most_74 post K74 M L v2 := by rw [hKe]; exact hw
    clear ih
    unfold wpX9_most_74 at hw
    refine lv_iload_n hx hb0 dX9_most_74 rfl (lv_at hl 1 rfl) ?_
    refine lv_bipush (v := (8 : Int32)) hx hb0 dX9_most_75 (by decide) ?_
    refine lv_icmp_ge (tgt := 99) hx hb0 dX9_most_77 (by decide) (fun c_77 => ?_) (fun c_77 => ?_)
    · replace hw := hw.1 c_77
      refine lv_aload_n hx hb0 dX9_most_99 rfl (lv_at hl 0 rfl) ?_
      refine z_getR (k2 := 59) X hW zC7 zR_42_25 (by decide) rfl zl_X9_59 dX9_most_100 ?_
      refine lv_bipush (v := (63 : Int32)) hx hb0 dX9_most_103 (by decide) ?_
      obtain ⟨g_105, hw⟩ := hw
      refine z_iald X hW zI_59 g_105 dX9_most_105 ?_
      exact hret _ ls _ _ (M 59 (63 : Int32).toNatClampNeg) M L dX9_most_106 rfl hw hW
    · replace hw := hw.2 c_77
      refine lv_aload_n hx hb0 dX9_most_80 rfl (lv_at hl 0 rfl) ?_
      refine lv_iload_n hx hb0 dX9_most_81 rfl (lv_at hl 1 rfl) ?_
      refine z_Vi X zO_42 zC7 zc_X9_isAbove zs_X9_isAbove zl_X9_137 rfl ⟨rfl, rfl⟩ ⟨Nat.le_of_ble_eq_true rfl, Nat.le_of_ble_eq_true rfl⟩ (kX9_isAbove l D cy ad X.2.2.2.1 v2) hW hw hl.1 rfl rfl (Nat.le_of_ble_eq_true rfl) dX9_most_82 (fun r_82 M_82 L_82 H_82 locs_82 hw hW => ?_)
      refine lv_if_eq (tgt := 93) hx hb0 dX9_most_85 (by decide) (fun c_85 => ?_) (fun c_85 => ?_)
      · replace hw := hw.1 c_85
        exact mX9_most_93 X post hret K74 hK74 M_82 L_82 v2 _ _ ls hw hW (lv_sub hl [0, 1] rfl)
      · replace hw := hw.2 c_85
        refine lv_aload_n hx hb0 dX9_most_88 rfl (lv_at hl 0 rfl) ?_
        refine lv_iload_n hx hb0 dX9_most_89 rfl (lv_at hl 1 rfl) ?_
        refine z_Vv X zO_42 zC7 zc_X9_addFlake zs_X9_addFlake zl_X9_239 rfl ⟨rfl, rfl⟩ ⟨Nat.le_of_ble_eq_true rfl, Nat.le_of_ble_eq_true rfl⟩ (kX9_addFlake l D cy ad X.2.2.2.1 v2) hW hw hl.1 rfl rfl (Nat.le_of_ble_eq_true rfl) dX9_most_90 (fun M_90 L_90 H_90 locs_90 hw hW => ?_)
        exact mX9_most_93 X post hret K74 hK74 M_90 L_90 v2 _ _ ls hw hW (lv_sub hl [0, 1] rfl)
set_option maxRecDepth 20000 in
set_option maxHeartbeats 4000000 in
theorem mX9_most_53 {p : Program} {l : Launch} {e : Env} {s : State} {m : MethodId} {args : Array Value} {below : List Frame} {meth : Method} {c : Code} {cells slots : Nat} {Q : State → Prop} {D : va_G} {cy : Nat → ClassId} {ad : Nat → Nat} {A : Nat → Prop} (X : zCx p rmX9_most s m args c cells slots cX9_most 4 RX9 D cy ad A) (post : Int32 → Mm → Ml → Prop) (hret : zRi p l e rmX9_most s m args below meth c cells slots Q cX9_most D cy ad A .int post) : ∀ (j9 : Nat) (M : Mm) (L : Ml) (v2 : Int32) (H : Heap) (locs : List Loc) (ls : Array Slot), wlX9_most_53 post j9 (M, L, v2) → zWd D cy ad A s H locs M L → lv_has ls 4 [(0, .ref (ad 42)), (2, .int v2)] → W p l e rmX9_most s m args below meth c H locs cells slots Q (F0 m 53 ls []) := by
  have hx := X.1.1; have hb0 := X.1.2.1; have hts := X.1.2.2.2.2
  intro j9
  induction j9 with
  | zero => intro M L v2 H locs ls hw; exact hw.elim
  | succ j9 ih =>
    obtain ⟨K53, hKe⟩ : ∃ K : Mm → Ml → Int32 → Prop, K = fun M L v2 => wlX9_most_53 post j9 (M, L, v2) := ⟨_, rfl⟩
    have hK53 : ∀ (M : Mm) (L : Ml) (v2 : Int32) (H : Heap) (locs : List Loc) (ls : Array Slot), K53 M L v2 → zWd D cy ad A s H locs M L → lv_has ls 4 [(0, .ref (ad 42)), (2, .int v2)] → W p l e rmX9_most s m args below meth c H locs cells slots Q (F0 m 53 ls []) := by intro M L v2 H locs ls hw; rw [hKe] at hw; exact ih M L v2 H locs ls hw
    intro M L v2 H locs ls hw hW hl
    have hw : wpX9_most_53 post K53 M L v2 := by rw [hKe]; exact hw
    clear ih
    unfold wpX9_most_53 at hw
    refine lv_iload_n hx hb0 dX9_most_53 rfl (lv_at hl 1 rfl) ?_
    refine lv_bipush (v := (64 : Int32)) hx hb0 dX9_most_54 (by decide) ?_
    refine lv_icmp_ge (tgt := 72) hx hb0 dX9_most_56 (by decide) (fun c_56 => ?_) (fun c_56 => ?_)
    · replace hw := hw.1 c_56
      refine lv_iconst (v := (0 : Int32)) hx hb0 dX9_most_72 (by decide) ?_
      refine lv_istore_n (lv' := [(2, .int (0 : Int32)), (0, .ref (ad 42))]) hx hb0 dX9_most_73 rfl hl (by decide) rfl (fun ls hl => ?_)
      obtain ⟨n_74, hw⟩ := hw
      exact mX9_most_74 X post hret n_74 M L (0 : Int32) _ _ ls hw hW (lv_sub hl [1, 0] rfl)
    · replace hw := hw.2 c_56
      refine lv_aload_n hx hb0 dX9_most_59 rfl (lv_at hl 0 rfl) ?_
      refine z_getR (k2 := 59) X hW zC7 zR_42_25 (by decide) rfl zl_X9_59 dX9_most_60 ?_
      refine lv_iload_n hx hb0 dX9_most_63 rfl (lv_at hl 1 rfl) ?_
      refine lv_iconst (v := (0 : Int32)) hx hb0 dX9_most_64 (by decide) ?_
      obtain ⟨g_65, hw⟩ := hw
      refine z_iast X hW zI_59 g_65 dX9_most_65 (fun M_65 H_65 locs_65 e_65 hW => ?_)
      replace hw := hw M_65 e_65
      obtain ⟨a_66, e_66⟩ : ∃ y : Int32, y = v2 + (1 : Int32) := ⟨_, rfl⟩
      replace hw := hw a_66 e_66
      refine lv_iinc (v := a_66) (lv' := [(2, .int a_66), (0, .ref (ad 42))]) hx hb0 dX9_most_66 hl (k := 1) rfl (by rw [e_66]; rfl) (by decide) rfl (fun ls hl => ?_)
      refine lv_goto (tgt := 53) hx hb0 dX9_most_69 (by decide) ?_
      exact hK53 M_65 L a_66 _ _ ls hw hW (lv_sub hl [1, 0] rfl)
set_option maxRecDepth 20000 in
set_option maxHeartbeats 4000000 in
theorem mX9_most {p : Program} {l : Launch} {e : Env} {s : State} {m : MethodId} {args : Array Value} {below : List Frame} {meth : Method} {c : Code} {cells slots : Nat} {Q : State → Prop} {D : va_G} {cy : Nat → ClassId} {ad : Nat → Nat} {A : Nat → Prop} (X : zCx p rmX9_most s m args c cells slots cX9_most 4 RX9 D cy ad A) (post : Int32 → Mm → Ml → Prop) (hret : zRi p l e rmX9_most s m args below meth c cells slots Q cX9_most D cy ad A .int post) : ∀ (M : Mm) (L : Ml) (x1 : Int32) (H : Heap) (locs : List Loc) (ls : Array Slot), wpX9_most x1 M L post → zWd D cy ad A s H locs M L → lv_has ls 4 [(0, .ref (ad 42)), (1, .int x1)] → W p l e rmX9_most s m args below meth c H locs cells slots Q (F0 m 0 ls []) := by
  have hx := X.1.1; have hb0 := X.1.2.1; have hts := X.1.2.2.2.2
  intro M L x1 H locs ls hw hW hl
  unfold wpX9_most at hw
  refine lv_iload_n hx hb0 dX9_most_0 rfl (lv_at hl 1 rfl) ?_
  refine lv_i2l hx hb0 dX9_most_1 rfl ?_
  refine lv_lconst (v := (0 : Int64)) hx hb0 dX9_most_2 (by decide) ?_
  refine lv_lconst (v := (1 : Int64)) hx hb0 dX9_most_3 (by decide) ?_
  refine z_Si X zc_X9_in zt_X9_in zl_X9_86 rfl ⟨rfl, rfl⟩ ⟨Nat.le_of_ble_eq_true rfl, Nat.le_of_ble_eq_true rfl⟩ (kX9_in l D cy ad X.2.2.2.1 (x1.toInt64) (0 : Int64) (1 : Int64)) hW hw hl.1 rfl rfl (Nat.le_of_ble_eq_true rfl) dX9_most_4 (fun r_4 M_4 L_4 H_4 locs_4 hw hW => ?_)
  refine lv_if_ne (tgt := 13) hx hb0 dX9_most_7 (by decide) (fun c_7 => ?_) (fun c_7 => ?_)
  · replace hw := hw.1 c_7
    refine lv_iload_n hx hb0 dX9_most_13 rfl (lv_at hl 1 rfl) ?_
    refine lv_if_ne (tgt := 51) hx hb0 dX9_most_14 (by decide) (fun c_14 => ?_) (fun c_14 => ?_)
    · replace hw := hw.1 c_14
      refine lv_iconst (v := (0 : Int32)) hx hb0 dX9_most_51 (by decide) ?_
      refine lv_istore_n (lv' := [(2, .int (0 : Int32)), (0, .ref (ad 42)), (1, .int x1)]) hx hb0 dX9_most_52 rfl hl (by decide) rfl (fun ls hl => ?_)
      obtain ⟨n_53, hw⟩ := hw
      exact mX9_most_53 X post hret n_53 M_4 L_4 (0 : Int32) _ _ ls hw hW (lv_sub hl [1, 0] rfl)
    · replace hw := hw.2 c_14
      refine lv_iconst (v := (0 : Int32)) hx hb0 dX9_most_17 (by decide) ?_
      refine lv_istore_n (lv' := [(2, .int (0 : Int32)), (0, .ref (ad 42)), (1, .int x1)]) hx hb0 dX9_most_18 rfl hl (by decide) rfl (fun ls hl => ?_)
      refine lv_iconst (v := (0 : Int32)) hx hb0 dX9_most_19 (by decide) ?_
      refine lv_istore_n (lv' := [(3, .int (0 : Int32)), (2, .int (0 : Int32)), (0, .ref (ad 42)), (1, .int x1)]) hx hb0 dX9_most_20 rfl hl (by decide) rfl (fun ls hl => ?_)
      obtain ⟨n_21, hw⟩ := hw
      exact mX9_most_21 X post hret n_21 M_4 L_4 (0 : Int32) (0 : Int32) _ _ ls hw hW (lv_sub hl [2, 1, 0] rfl)
  · replace hw := hw.2 c_7
    refine lv_bipush (v := (-2 : Int32)) hx hb0 dX9_most_10 (by decide) ?_
    exact hret _ ls _ _ (-2 : Int32) M_4 L_4 dX9_most_12 rfl hw hW
theorem kX9_most (l : Launch) (D : va_G) (cy : Nat → ClassId) (ad : Nat → Nat) (hi : zInj ad) (x1 : Int32) : zMi l yX9_most (.code yX9_most cX9_most 4 (some .int) :: zG) rmX9_most D cy ad [.ref (ad 42), .int x1] (wpX9_most x1) :=
  zMi_of (by decide +kernel) (Nat.le_of_ble_eq_true rfl) hi (fun X M L post _ hret ls hl hw hW => mX9_most X post hret M L x1 _ _ ls hw hW hl)
