/-! the walks, by program -/
abbrev rmX7_flakesWith : Room := { frames := 0, cells := 0, slots := 0, locals := 0 }
set_option maxRecDepth 20000 in
set_option maxHeartbeats 4000000 in
theorem mX7_flakesWith_26 {p : Program} {l : Launch} {e : Env} {s : State} {m : MethodId} {args : Array Value} {below : List Frame} {meth : Method} {c : Code} {cells slots : Nat} {Q : State → Prop} {D : va_G} {cy : Nat → ClassId} {ad : Nat → Nat} {A : Nat → Prop} (X : zCx p rmX7_flakesWith s m args c cells slots cX7_flakesWith 4 RX7 D cy ad A) {b : Nat} (hb : isY b) (post : Int32 → Mm → Ml → Prop) (hret : zRi p l e rmX7_flakesWith s m args below meth c cells slots Q cX7_flakesWith D cy ad A .int post) (K4 : Mm → Ml → Int32 → Int32 → Int32 → Prop) (hK4 : ∀ (M : Mm) (L : Ml) (v1 : Int32) (v2 : Int32) (v3 : Int32) (H : Heap) (locs : List Loc) (ls : Array Slot), K4 M L v1 v2 v3 → zWd D cy ad A s H locs M L → lv_has ls 4 [(0, .ref (ad b)), (1, .int v1), (2, .int v2), (3, .int v3)] → W p l e rmX7_flakesWith s m args below meth c H locs cells slots Q (F0 m 4 ls [])) : ∀ (M : Mm) (L : Ml) (v1 : Int32) (v2 : Int32) (v3 : Int32) (H : Heap) (locs : List Loc) (ls : Array Slot), wpX7_flakesWith_26 b post K4 M L v1 v2 v3 → zWd D cy ad A s H locs M L → lv_has ls 4 [(0, .ref (ad b)), (1, .int v1), (2, .int v2), (3, .int v3)] → W p l e rmX7_flakesWith s m args below meth c H locs cells slots Q (F0 m 26 ls []) := by
  have hx := X.1.1; have hb0 := X.1.2.1; have hts := X.1.2.2.2.2
  intro M L v1 v2 v3 H locs ls hw hW hl
  unfold wpX7_flakesWith_26 at hw
  obtain ⟨a_26, e_26⟩ : ∃ y : Int32, y = v3 + (1 : Int32) := ⟨_, rfl⟩
  replace hw := hw a_26 e_26
  refine lv_iinc (v := a_26) (lv' := [(3, .int a_26), (0, .ref (ad b)), (1, .int v1), (2, .int v2)]) hx hb0 dX7_flakesWith_26 hl (k := 3) rfl (by rw [e_26]; rfl) (by decide) rfl (fun ls hl => ?_)
  refine lv_goto (tgt := 4) hx hb0 dX7_flakesWith_29 (by decide) ?_
  exact hK4 M L v1 v2 a_26 _ _ ls hw hW (lv_sub hl [1, 2, 3, 0] rfl)
set_option maxRecDepth 20000 in
set_option maxHeartbeats 4000000 in
theorem mX7_flakesWith_4 {p : Program} {l : Launch} {e : Env} {s : State} {m : MethodId} {args : Array Value} {below : List Frame} {meth : Method} {c : Code} {cells slots : Nat} {Q : State → Prop} {D : va_G} {cy : Nat → ClassId} {ad : Nat → Nat} {A : Nat → Prop} (X : zCx p rmX7_flakesWith s m args c cells slots cX7_flakesWith 4 RX7 D cy ad A) {b : Nat} (hb : isY b) (post : Int32 → Mm → Ml → Prop) (hret : zRi p l e rmX7_flakesWith s m args below meth c cells slots Q cX7_flakesWith D cy ad A .int post) : ∀ (j9 : Nat) (M : Mm) (L : Ml) (v1 : Int32) (v2 : Int32) (v3 : Int32) (H : Heap) (locs : List Loc) (ls : Array Slot), wlX7_flakesWith_4 b post j9 (M, L, v1, v2, v3) → zWd D cy ad A s H locs M L → lv_has ls 4 [(0, .ref (ad b)), (1, .int v1), (2, .int v2), (3, .int v3)] → W p l e rmX7_flakesWith s m args below meth c H locs cells slots Q (F0 m 4 ls []) := by
  have hx := X.1.1; have hb0 := X.1.2.1; have hts := X.1.2.2.2.2
  intro j9
  induction j9 with
  | zero => intro M L v1 v2 v3 H locs ls hw; exact hw.elim
  | succ j9 ih =>
    obtain ⟨K4, hKe⟩ : ∃ K : Mm → Ml → Int32 → Int32 → Int32 → Prop, K = fun M L v1 v2 v3 => wlX7_flakesWith_4 b post j9 (M, L, v1, v2, v3) := ⟨_, rfl⟩
    have hK4 : ∀ (M : Mm) (L : Ml) (v1 : Int32) (v2 : Int32) (v3 : Int32) (H : Heap) (locs : List Loc) (ls : Array Slot), K4 M L v1 v2 v3 → zWd D cy ad A s H locs M L → lv_has ls 4 [(0, .ref (ad b)), (1, .int v1), (2, .int v2), (3, .int v3)] → W p l e rmX7_flakesWith s m args below meth c H locs cells slots Q (F0 m 4 ls []) := by intro M L v1 v2 v3 H locs ls hw; rw [hKe] at hw; exact ih M L v1 v2 v3 H locs ls hw
    intro M L v1 v2 v3 H locs ls hw hW hl
    have hw : wpX7_flakesWith_4 b post K4 M L v1 v2 v3 := by rw [hKe]; exact hw
    clear ih
    unfold wpX7_flakesWith_4 at hw
    refine lv_iload_n hx hb0 dX7_flakesWith_4 rfl (lv_at hl 3 rfl) ?_
    refine lv_bipush (v := (8 : Int32)) hx hb0 dX7_flakesWith_5 (by decide) ?_
    refine lv_icmp_ge (tgt := 32) hx hb0 dX7_flakesWith_7 (by decide) (fun c_7 => ?_) (fun c_7 => ?_)
    · replace hw := hw.1 c_7
      refine lv_iload_n hx hb0 dX7_flakesWith_32 rfl (lv_at hl 2 rfl) ?_
      refine lv_aload_n hx hb0 dX7_flakesWith_33 rfl (lv_at hl 0 rfl) ?_
      refine z_getI X hW zC5 (zFY_0 hb) (by decide) rfl zl_X7_9 dX7_flakesWith_34 ?_
      refine lv_iand hx hb0 dX7_flakesWith_37 ?_
      exact hret _ ls _ _ (v2 &&& (M b 0)) M L dX7_flakesWith_38 rfl hw hW
    · replace hw := hw.2 c_7
      refine lv_aload_n hx hb0 dX7_flakesWith_10 rfl (lv_at hl 0 rfl) ?_
      refine z_getR (k2 := (b + 5)) X hW zC5 (zRY_5 hb) (by decide) rfl zl_X7_28 dX7_flakesWith_11 ?_
      refine lv_iload_n hx hb0 dX7_flakesWith_14 rfl (lv_at hl 3 rfl) ?_
      obtain ⟨g_15, hw⟩ := hw
      refine z_iald X hW (zIY_5 hb) g_15 dX7_flakesWith_15 ?_
      refine lv_iload_n hx hb0 dX7_flakesWith_16 rfl (lv_at hl 1 rfl) ?_
      refine lv_icmp_ne (tgt := 26) hx hb0 dX7_flakesWith_17 (by decide) (fun c_17 => ?_) (fun c_17 => ?_)
      · replace hw := hw.1 c_17
        exact mX7_flakesWith_26 X hb post hret K4 hK4 M L v1 v2 v3 _ _ ls hw hW (lv_sub hl [0, 1, 2, 3] rfl)
      · replace hw := hw.2 c_17
        refine lv_iload_n hx hb0 dX7_flakesWith_20 rfl (lv_at hl 2 rfl) ?_
        refine lv_iconst (v := (1 : Int32)) hx hb0 dX7_flakesWith_21 (by decide) ?_
        refine lv_iload_n hx hb0 dX7_flakesWith_22 rfl (lv_at hl 3 rfl) ?_
        refine lv_ishl hx hb0 dX7_flakesWith_23 ?_
        refine lv_ior hx hb0 dX7_flakesWith_24 ?_
        refine lv_topi (fun a_25 e_25 => ?_)
        replace hw := hw a_25 e_25
        refine lv_istore_n (lv' := [(2, .int a_25), (0, .ref (ad b)), (1, .int v1), (3, .int v3)]) hx hb0 dX7_flakesWith_25 rfl hl (by decide) rfl (fun ls hl => ?_)
        exact mX7_flakesWith_26 X hb post hret K4 hK4 M L v1 a_25 v3 _ _ ls hw hW (lv_sub hl [1, 2, 0, 3] rfl)
set_option maxRecDepth 20000 in
set_option maxHeartbeats 4000000 in
theorem mX7_flakesWith {p : Program} {l : Launch} {e : Env} {s : State} {m : MethodId} {args : Array Value} {below : List Frame} {meth : Method} {c : Code} {cells slots : Nat} {Q : State → Prop} {D : va_G} {cy : Nat → ClassId} {ad : Nat → Nat} {A : Nat → Prop} (X : zCx p rmX7_flakesWith s m args c cells slots cX7_flakesWith 4 RX7 D cy ad A) {b : Nat} (hb : isY b) (post : Int32 → Mm → Ml → Prop) (hret : zRi p l e rmX7_flakesWith s m args below meth c cells slots Q cX7_flakesWith D cy ad A .int post) : ∀ (M : Mm) (L : Ml) (x1 : Int32) (H : Heap) (locs : List Loc) (ls : Array Slot), wpX7_flakesWith b x1 M L post → zWd D cy ad A s H locs M L → lv_has ls 4 [(0, .ref (ad b)), (1, .int x1)] → W p l e rmX7_flakesWith s m args below meth c H locs cells slots Q (F0 m 0 ls []) := by
  have hx := X.1.1; have hb0 := X.1.2.1; have hts := X.1.2.2.2.2
  intro M L x1 H locs ls hw hW hl
  unfold wpX7_flakesWith at hw
  refine lv_iconst (v := (0 : Int32)) hx hb0 dX7_flakesWith_0 (by decide) ?_
  refine lv_istore_n (lv' := [(2, .int (0 : Int32)), (0, .ref (ad b)), (1, .int x1)]) hx hb0 dX7_flakesWith_1 rfl hl (by decide) rfl (fun ls hl => ?_)
  refine lv_iconst (v := (0 : Int32)) hx hb0 dX7_flakesWith_2 (by decide) ?_
  refine lv_istore_n (lv' := [(3, .int (0 : Int32)), (2, .int (0 : Int32)), (0, .ref (ad b)), (1, .int x1)]) hx hb0 dX7_flakesWith_3 rfl hl (by decide) rfl (fun ls hl => ?_)
  obtain ⟨n_4, hw⟩ := hw
  exact mX7_flakesWith_4 X hb post hret n_4 M L x1 (0 : Int32) (0 : Int32) _ _ ls hw hW (lv_sub hl [2, 3, 1, 0] rfl)
theorem kX7_flakesWith (l : Launch) (D : va_G) (cy : Nat → ClassId) (ad : Nat → Nat) (hi : zInj ad) {b : Nat} (hb : isY b) (x1 : Int32) : zMi l yX7_flakesWith (.code yX7_flakesWith cX7_flakesWith 4 (some .int) :: zG) rmX7_flakesWith D cy ad [.ref (ad b), .int x1] (wpX7_flakesWith b x1) :=
  zMi_of (by decide +kernel) (Nat.le_of_ble_eq_true rfl) hi (fun X M L post _ hret ls hl hw hW => mX7_flakesWith X hb post hret M L x1 _ _ ls hw hW hl)
abbrev rmX7_trodden : Room := { frames := 2, cells := 0, slots := 0, locals := 42 }
set_option maxRecDepth 20000 in
set_option maxHeartbeats 4000000 in
theorem mX7_trodden_67 {p : Program} {l : Launch} {e : Env} {s : State} {m : MethodId} {args : Array Value} {below : List Frame} {meth : Method} {c : Code} {cells slots : Nat} {Q : State → Prop} {D : va_G} {cy : Nat → ClassId} {ad : Nat → Nat} {A : Nat → Prop} (X : zCx p rmX7_trodden s m args c cells slots cX7_trodden 4 RX7 D cy ad A) {b : Nat} (hb : isY b) (post : Int32 → Mm → Ml → Prop) (hret : zRi p l e rmX7_trodden s m args below meth c cells slots Q cX7_trodden D cy ad A .int post) (K41 : Mm → Ml → Int32 → Int32 → Int32 → Prop) (hK41 : ∀ (M : Mm) (L : Ml) (v1 : Int32) (v2 : Int32) (v3 : Int32) (H : Heap) (locs : List Loc) (ls : Array Slot), K41 M L v1 v2 v3 → zWd D cy ad A s H locs M L → lv_has ls 4 [(0, .ref (ad b)), (1, .int v1), (2, .int v2), (3, .int v3)] → W p l e rmX7_trodden s m args below meth c H locs cells slots Q (F0 m 41 ls [])) : ∀ (M : Mm) (L : Ml) (v1 : Int32) (v2 : Int32) (v3 : Int32) (H : Heap) (locs : List Loc) (ls : Array Slot), wpX7_trodden_67 b post K41 M L v1 v2 v3 → zWd D cy ad A s H locs M L → lv_has ls 4 [(0, .ref (ad b)), (1, .int v1), (2, .int v2), (3, .int v3)] → W p l e rmX7_trodden s m args below meth c H locs cells slots Q (F0 m 67 ls []) := by
  have hx := X.1.1; have hb0 := X.1.2.1; have hts := X.1.2.2.2.2
  intro M L v1 v2 v3 H locs ls hw hW hl
  unfold wpX7_trodden_67 at hw
  obtain ⟨a_67, e_67⟩ : ∃ y : Int32, y = v3 + (1 : Int32) := ⟨_, rfl⟩
  replace hw := hw a_67 e_67
  refine lv_iinc (v := a_67) (lv' := [(3, .int a_67), (0, .ref (ad b)), (1, .int v1), (2, .int v2)]) hx hb0 dX7_trodden_67 hl (k := 3) rfl (by rw [e_67]; rfl) (by decide) rfl (fun ls hl => ?_)
  refine lv_goto (tgt := 41) hx hb0 dX7_trodden_70 (by decide) ?_
  exact hK41 M L v1 v2 a_67 _ _ ls hw hW (lv_sub hl [1, 2, 3, 0] rfl)
set_option maxRecDepth 20000 in
set_option maxHeartbeats 4000000 in
theorem mX7_trodden_41 {p : Program} {l : Launch} {e : Env} {s : State} {m : MethodId} {args : Array Value} {below : List Frame} {meth : Method} {c : Code} {cells slots : Nat} {Q : State → Prop} {D : va_G} {cy : Nat → ClassId} {ad : Nat → Nat} {A : Nat → Prop} (X : zCx p rmX7_trodden s m args c cells slots cX7_trodden 4 RX7 D cy ad A) {b : Nat} (hb : isY b) (post : Int32 → Mm → Ml → Prop) (hret : zRi p l e rmX7_trodden s m args below meth c cells slots Q cX7_trodden D cy ad A .int post) : ∀ (j9 : Nat) (M : Mm) (L : Ml) (v1 : Int32) (v2 : Int32) (v3 : Int32) (H : Heap) (locs : List Loc) (ls : Array Slot), wlX7_trodden_41 b post j9 (M, L, v1, v2, v3) → zWd D cy ad A s H locs M L → lv_has ls 4 [(0, .ref (ad b)), (1, .int v1), (2, .int v2), (3, .int v3)] → W p l e rmX7_trodden s m args below meth c H locs cells slots Q (F0 m 41 ls []) := by
  have hx := X.1.1; have hb0 := X.1.2.1; have hts := X.1.2.2.2.2
  intro j9
  induction j9 with
  | zero => intro M L v1 v2 v3 H locs ls hw; exact hw.elim
  | succ j9 ih =>
    obtain ⟨K41, hKe⟩ : ∃ K : Mm → Ml → Int32 → Int32 → Int32 → Prop, K = fun M L v1 v2 v3 => wlX7_trodden_41 b post j9 (M, L, v1, v2, v3) := ⟨_, rfl⟩
    have hK41 : ∀ (M : Mm) (L : Ml) (v1 : Int32) (v2 : Int32) (v3 : Int32) (H : Heap) (locs : List Loc) (ls : Array Slot), K41 M L v1 v2 v3 → zWd D cy ad A s H locs M L → lv_has ls 4 [(0, .ref (ad b)), (1, .int v1), (2, .int v2), (3, .int v3)] → W p l e rmX7_trodden s m args below meth c H locs cells slots Q (F0 m 41 ls []) := by intro M L v1 v2 v3 H locs ls hw; rw [hKe] at hw; exact ih M L v1 v2 v3 H locs ls hw
    intro M L v1 v2 v3 H locs ls hw hW hl
    have hw : wpX7_trodden_41 b post K41 M L v1 v2 v3 := by rw [hKe]; exact hw
    clear ih
    unfold wpX7_trodden_41 at hw
    refine lv_iload_n hx hb0 dX7_trodden_41 rfl (lv_at hl 3 rfl) ?_
    refine lv_bipush (v := (8 : Int32)) hx hb0 dX7_trodden_42 (by decide) ?_
    refine lv_icmp_ge (tgt := 73) hx hb0 dX7_trodden_44 (by decide) (fun c_44 => ?_) (fun c_44 => ?_)
    · replace hw := hw.1 c_44
      refine lv_iload_n hx hb0 dX7_trodden_73 rfl (lv_at hl 1 rfl) ?_
      exact hret _ ls _ _ v1 M L dX7_trodden_74 rfl hw hW
    · replace hw := hw.2 c_44
      refine lv_iload_n hx hb0 dX7_trodden_47 rfl (lv_at hl 2 rfl) ?_
      refine lv_iload_n hx hb0 dX7_trodden_48 rfl (lv_at hl 3 rfl) ?_
      refine z_SNi X zc_X8_bit zt_X8_bit zn_X7_62 rfl ⟨rfl, rfl⟩ ⟨Nat.le_of_ble_eq_true rfl, Nat.le_of_ble_eq_true rfl⟩ (kX8_bit l D cy ad X.2.2.2.1 v2 v3) hW hw hl.1 rfl rfl (Nat.le_of_ble_eq_true rfl) dX7_trodden_49 (fun r_49 M_49 L_49 H_49 locs_49 hw hW => ?_)
      refine lv_iconst (v := (1 : Int32)) hx hb0 dX7_trodden_52 (by decide) ?_
      refine lv_icmp_ne (tgt := 67) hx hb0 dX7_trodden_53 (by decide) (fun c_53 => ?_) (fun c_53 => ?_)
      · replace hw := hw.1 c_53
        exact mX7_trodden_67 X hb post hret K41 hK41 M_49 L_49 v1 v2 v3 _ _ ls hw hW (lv_sub hl [0, 1, 2, 3] rfl)
      · replace hw := hw.2 c_53
        refine lv_iload_n hx hb0 dX7_trodden_56 rfl (lv_at hl 1 rfl) ?_
        refine lv_iconst (v := (1 : Int32)) hx hb0 dX7_trodden_57 (by decide) ?_
        refine lv_aload_n hx hb0 dX7_trodden_58 rfl (lv_at hl 0 rfl) ?_
        refine z_getR (k2 := (b + 2)) X hW zC5 (zRY_2 hb) (by decide) rfl zl_X7_19 dX7_trodden_59 ?_
        refine lv_iload_n hx hb0 dX7_trodden_62 rfl (lv_at hl 3 rfl) ?_
        obtain ⟨g_63, hw⟩ := hw
        refine z_iald X hW (zIY_2 hb) g_63 dX7_trodden_63 ?_
        refine lv_ishl hx hb0 dX7_trodden_64 ?_
        refine lv_ior hx hb0 dX7_trodden_65 ?_
        refine lv_topi (fun a_66 e_66 => ?_)
        replace hw := hw a_66 e_66
        refine lv_istore_n (lv' := [(1, .int a_66), (0, .ref (ad b)), (2, .int v2), (3, .int v3)]) hx hb0 dX7_trodden_66 rfl hl (by decide) rfl (fun ls hl => ?_)
        exact mX7_trodden_67 X hb post hret K41 hK41 M_49 L_49 a_66 v2 v3 _ _ ls hw hW (lv_sub hl [1, 0, 2, 3] rfl)
set_option maxRecDepth 20000 in
set_option maxHeartbeats 4000000 in
theorem mX7_trodden_4 {p : Program} {l : Launch} {e : Env} {s : State} {m : MethodId} {args : Array Value} {below : List Frame} {meth : Method} {c : Code} {cells slots : Nat} {Q : State → Prop} {D : va_G} {cy : Nat → ClassId} {ad : Nat → Nat} {A : Nat → Prop} (X : zCx p rmX7_trodden s m args c cells slots cX7_trodden 4 RX7 D cy ad A) {b : Nat} (hb : isY b) (post : Int32 → Mm → Ml → Prop) (hret : zRi p l e rmX7_trodden s m args below meth c cells slots Q cX7_trodden D cy ad A .int post) : ∀ (j9 : Nat) (M : Mm) (L : Ml) (v1 : Int32) (v2 : Int32) (H : Heap) (locs : List Loc) (ls : Array Slot), wlX7_trodden_4 b post j9 (M, L, v1, v2) → zWd D cy ad A s H locs M L → lv_has ls 4 [(0, .ref (ad b)), (1, .int v1), (2, .int v2)] → W p l e rmX7_trodden s m args below meth c H locs cells slots Q (F0 m 4 ls []) := by
  have hx := X.1.1; have hb0 := X.1.2.1; have hts := X.1.2.2.2.2
  intro j9
  induction j9 with
  | zero => intro M L v1 v2 H locs ls hw; exact hw.elim
  | succ j9 ih =>
    obtain ⟨K4, hKe⟩ : ∃ K : Mm → Ml → Int32 → Int32 → Prop, K = fun M L v1 v2 => wlX7_trodden_4 b post j9 (M, L, v1, v2) := ⟨_, rfl⟩
    have hK4 : ∀ (M : Mm) (L : Ml) (v1 : Int32) (v2 : Int32) (H : Heap) (locs : List Loc) (ls : Array Slot), K4 M L v1 v2 → zWd D cy ad A s H locs M L → lv_has ls 4 [(0, .ref (ad b)), (1, .int v1), (2, .int v2)] → W p l e rmX7_trodden s m args below meth c H locs cells slots Q (F0 m 4 ls []) := by intro M L v1 v2 H locs ls hw; rw [hKe] at hw; exact ih M L v1 v2 H locs ls hw
    intro M L v1 v2 H locs ls hw hW hl
    have hw : wpX7_trodden_4 b post K4 M L v1 v2 := by rw [hKe]; exact hw
    clear ih
    unfold wpX7_trodden_4 at hw
    refine lv_iload_n hx hb0 dX7_trodden_4 rfl (lv_at hl 2 rfl) ?_
    refine lv_bipush (v := (6 : Int32)) hx hb0 dX7_trodden_5 (by decide) ?_
    refine lv_icmp_ge (tgt := 27) hx hb0 dX7_trodden_7 (by decide) (fun c_7 => ?_) (fun c_7 => ?_)
    · replace hw := hw.1 c_7
      refine lv_aload_n hx hb0 dX7_trodden_27 rfl (lv_at hl 0 rfl) ?_
      refine z_Vi X (zOY hb) zC5 zc_X7_down zs_X7_down zl_X7_73 rfl ⟨rfl, rfl⟩ ⟨Nat.le_of_ble_eq_true rfl, Nat.le_of_ble_eq_true rfl⟩ (kX7_down l D cy ad X.2.2.2.1 hb) hW hw hl.1 rfl rfl (Nat.le_of_ble_eq_true rfl) dX7_trodden_28 (fun r_28 M_28 L_28 H_28 locs_28 hw hW => ?_)
      refine lv_aload_n hx hb0 dX7_trodden_31 rfl (lv_at hl 0 rfl) ?_
      refine lv_bipush (v := (-6 : Int32)) hx hb0 dX7_trodden_32 (by decide) ?_
      refine z_Vi X (zOY hb) zC5 zc_X7_flakesWith zs_X7_flakesWith zl_X7_76 rfl ⟨rfl, rfl⟩ ⟨Nat.le_of_ble_eq_true rfl, Nat.le_of_ble_eq_true rfl⟩ (kX7_flakesWith l D cy ad X.2.2.2.1 hb (-6 : Int32)) hW hw hl.1 rfl rfl (Nat.le_of_ble_eq_true rfl) dX7_trodden_34 (fun r_34 M_34 L_34 H_34 locs_34 hw hW => ?_)
      refine lv_iand hx hb0 dX7_trodden_37 ?_
      refine lv_topi (fun a_38 e_38 => ?_)
      replace hw := hw a_38 e_38
      refine lv_istore_n (lv' := [(2, .int a_38), (0, .ref (ad b)), (1, .int v1)]) hx hb0 dX7_trodden_38 rfl hl (by decide) rfl (fun ls hl => ?_)
      refine lv_iconst (v := (0 : Int32)) hx hb0 dX7_trodden_39 (by decide) ?_
      refine lv_istore_n (lv' := [(3, .int (0 : Int32)), (2, .int a_38), (0, .ref (ad b)), (1, .int v1)]) hx hb0 dX7_trodden_40 rfl hl (by decide) rfl (fun ls hl => ?_)
      obtain ⟨n_41, hw⟩ := hw
      exact mX7_trodden_41 X hb post hret n_41 M_34 L_34 v1 a_38 (0 : Int32) _ _ ls hw hW (lv_sub hl [2, 3, 1, 0] rfl)
    · replace hw := hw.2 c_7
      refine lv_iload_n hx hb0 dX7_trodden_10 rfl (lv_at hl 1 rfl) ?_
      refine lv_iconst (v := (1 : Int32)) hx hb0 dX7_trodden_11 (by decide) ?_
      refine lv_aload_n hx hb0 dX7_trodden_12 rfl (lv_at hl 0 rfl) ?_
      refine z_getR (k2 := (b + 6)) X hW zC5 (zRY_6 hb) (by decide) rfl zl_X7_31 dX7_trodden_13 ?_
      refine lv_iload_n hx hb0 dX7_trodden_16 rfl (lv_at hl 2 rfl) ?_
      obtain ⟨g_17, hw⟩ := hw
      refine z_iald X hW (zIY_6 hb) g_17 dX7_trodden_17 ?_
      refine lv_ishl hx hb0 dX7_trodden_18 ?_
      refine lv_ior hx hb0 dX7_trodden_19 ?_
      refine lv_topi (fun a_20 e_20 => ?_)
      replace hw := hw a_20 e_20
      refine lv_istore_n (lv' := [(1, .int a_20), (0, .ref (ad b)), (2, .int v2)]) hx hb0 dX7_trodden_20 rfl hl (by decide) rfl (fun ls hl => ?_)
      obtain ⟨a_21, e_21⟩ : ∃ y : Int32, y = v2 + (1 : Int32) := ⟨_, rfl⟩
      replace hw := hw a_21 e_21
      refine lv_iinc (v := a_21) (lv' := [(2, .int a_21), (1, .int a_20), (0, .ref (ad b))]) hx hb0 dX7_trodden_21 hl (k := 2) rfl (by rw [e_21]; rfl) (by decide) rfl (fun ls hl => ?_)
      refine lv_goto (tgt := 4) hx hb0 dX7_trodden_24 (by decide) ?_
      exact hK4 M L a_20 a_21 _ _ ls hw hW (lv_sub hl [2, 1, 0] rfl)
set_option maxRecDepth 20000 in
set_option maxHeartbeats 4000000 in
theorem mX7_trodden {p : Program} {l : Launch} {e : Env} {s : State} {m : MethodId} {args : Array Value} {below : List Frame} {meth : Method} {c : Code} {cells slots : Nat} {Q : State → Prop} {D : va_G} {cy : Nat → ClassId} {ad : Nat → Nat} {A : Nat → Prop} (X : zCx p rmX7_trodden s m args c cells slots cX7_trodden 4 RX7 D cy ad A) {b : Nat} (hb : isY b) (post : Int32 → Mm → Ml → Prop) (hret : zRi p l e rmX7_trodden s m args below meth c cells slots Q cX7_trodden D cy ad A .int post) : ∀ (M : Mm) (L : Ml) (H : Heap) (locs : List Loc) (ls : Array Slot), wpX7_trodden b M L post → zWd D cy ad A s H locs M L → lv_has ls 4 [(0, .ref (ad b))] → W p l e rmX7_trodden s m args below meth c H locs cells slots Q (F0 m 0 ls []) := by
  have hx := X.1.1; have hb0 := X.1.2.1; have hts := X.1.2.2.2.2
  intro M L H locs ls hw hW hl
  unfold wpX7_trodden at hw
  refine lv_iconst (v := (0 : Int32)) hx hb0 dX7_trodden_0 (by decide) ?_
  refine lv_istore_n (lv' := [(1, .int (0 : Int32)), (0, .ref (ad b))]) hx hb0 dX7_trodden_1 rfl hl (by decide) rfl (fun ls hl => ?_)
  refine lv_iconst (v := (0 : Int32)) hx hb0 dX7_trodden_2 (by decide) ?_
  refine lv_istore_n (lv' := [(2, .int (0 : Int32)), (1, .int (0 : Int32)), (0, .ref (ad b))]) hx hb0 dX7_trodden_3 rfl hl (by decide) rfl (fun ls hl => ?_)
  obtain ⟨n_4, hw⟩ := hw
  exact mX7_trodden_4 X hb post hret n_4 M L (0 : Int32) (0 : Int32) _ _ ls hw hW (lv_sub hl [2, 1, 0] rfl)
theorem kX7_trodden (l : Launch) (D : va_G) (cy : Nat → ClassId) (ad : Nat → Nat) (hi : zInj ad) {b : Nat} (hb : isY b) : zMi l yX7_trodden (.code yX7_trodden cX7_trodden 4 (some .int) :: zG) rmX7_trodden D cy ad [.ref (ad b)] (wpX7_trodden b) :=
  zMi_of (by decide +kernel) (Nat.le_of_ble_eq_true rfl) hi (fun X M L post _ hret ls hl hw hW => mX7_trodden X hb post hret M L _ _ ls hw hW hl)
abbrev rmX7_addSight : Room := { frames := 1, cells := 0, slots := 0, locals := 21 }
set_option maxRecDepth 20000 in
set_option maxHeartbeats 4000000 in
theorem mX7_addSight_51 {p : Program} {l : Launch} {e : Env} {s : State} {m : MethodId} {args : Array Value} {below : List Frame} {meth : Method} {c : Code} {cells slots : Nat} {Q : State → Prop} {D : va_G} {cy : Nat → ClassId} {ad : Nat → Nat} {A : Nat → Prop} (X : zCx p rmX7_addSight s m args c cells slots cX7_addSight 5 RX7 D cy ad A) {b : Nat} (hb : isY b) (post : Mm → Ml → Prop) (hret : zRv p l e rmX7_addSight s m args below meth c cells slots Q cX7_addSight D cy ad A post) (K2 : Mm → Ml → Int32 → Int32 → Int32 → Prop) (hK2 : ∀ (M : Mm) (L : Ml) (v1 : Int32) (v2 : Int32) (v3 : Int32) (H : Heap) (locs : List Loc) (ls : Array Slot), K2 M L v1 v2 v3 → zWd D cy ad A s H locs M L → lv_has ls 5 [(0, .ref (ad b)), (1, .int v1), (2, .int v2), (3, .int v3)] → W p l e rmX7_addSight s m args below meth c H locs cells slots Q (F0 m 2 ls [])) : ∀ (M : Mm) (L : Ml) (v1 : Int32) (v2 : Int32) (v3 : Int32) (H : Heap) (locs : List Loc) (ls : Array Slot), wpX7_addSight_51 b post K2 M L v1 v2 v3 → zWd D cy ad A s H locs M L → lv_has ls 5 [(0, .ref (ad b)), (1, .int v1), (2, .int v2), (3, .int v3)] → W p l e rmX7_addSight s m args below meth c H locs cells slots Q (F0 m 51 ls []) := by
  have hx := X.1.1; have hb0 := X.1.2.1; have hts := X.1.2.2.2.2
  intro M L v1 v2 v3 H locs ls hw hW hl
  unfold wpX7_addSight_51 at hw
  obtain ⟨a_51, e_51⟩ : ∃ y : Int32, y = v3 + (1 : Int32) := ⟨_, rfl⟩
  replace hw := hw a_51 e_51
  refine lv_iinc (v := a_51) (lv' := [(3, .int a_51), (0, .ref (ad b)), (1, .int v1), (2, .int v2)]) hx hb0 dX7_addSight_51 hl (k := 3) rfl (by rw [e_51]; rfl) (by decide) rfl (fun ls hl => ?_)
  refine lv_goto (tgt := 2) hx hb0 dX7_addSight_54 (by decide) ?_
  exact hK2 M L v1 v2 a_51 _ _ ls hw hW (lv_sub hl [1, 2, 3, 0] rfl)
set_option maxRecDepth 20000 in
set_option maxHeartbeats 4000000 in
theorem mX7_addSight_2 {p : Program} {l : Launch} {e : Env} {s : State} {m : MethodId} {args : Array Value} {below : List Frame} {meth : Method} {c : Code} {cells slots : Nat} {Q : State → Prop} {D : va_G} {cy : Nat → ClassId} {ad : Nat → Nat} {A : Nat → Prop} (X : zCx p rmX7_addSight s m args c cells slots cX7_addSight 5 RX7 D cy ad A) {b : Nat} (hb : isY b) (post : Mm → Ml → Prop) (hret : zRv p l e rmX7_addSight s m args below meth c cells slots Q cX7_addSight D cy ad A post) : ∀ (j9 : Nat) (M : Mm) (L : Ml) (v1 : Int32) (v2 : Int32) (v3 : Int32) (H : Heap) (locs : List Loc) (ls : Array Slot), wlX7_addSight_2 b post j9 (M, L, v1, v2, v3) → zWd D cy ad A s H locs M L → lv_has ls 5 [(0, .ref (ad b)), (1, .int v1), (2, .int v2), (3, .int v3)] → W p l e rmX7_addSight s m args below meth c H locs cells slots Q (F0 m 2 ls []) := by
  have hx := X.1.1; have hb0 := X.1.2.1; have hts := X.1.2.2.2.2
  intro j9
  induction j9 with
  | zero => intro M L v1 v2 v3 H locs ls hw; exact hw.elim
  | succ j9 ih =>
    obtain ⟨K2, hKe⟩ : ∃ K : Mm → Ml → Int32 → Int32 → Int32 → Prop, K = fun M L v1 v2 v3 => wlX7_addSight_2 b post j9 (M, L, v1, v2, v3) := ⟨_, rfl⟩
    have hK2 : ∀ (M : Mm) (L : Ml) (v1 : Int32) (v2 : Int32) (v3 : Int32) (H : Heap) (locs : List Loc) (ls : Array Slot), K2 M L v1 v2 v3 → zWd D cy ad A s H locs M L → lv_has ls 5 [(0, .ref (ad b)), (1, .int v1), (2, .int v2), (3, .int v3)] → W p l e rmX7_addSight s m args below meth c H locs cells slots Q (F0 m 2 ls []) := by intro M L v1 v2 v3 H locs ls hw; rw [hKe] at hw; exact ih M L v1 v2 v3 H locs ls hw
    intro M L v1 v2 v3 H locs ls hw hW hl
    have hw : wpX7_addSight_2 b post K2 M L v1 v2 v3 := by rw [hKe]; exact hw
    clear ih
    unfold wpX7_addSight_2 at hw
    refine lv_iload_n hx hb0 dX7_addSight_2 rfl (lv_at hl 3 rfl) ?_
    refine lv_bipush (v := (8 : Int32)) hx hb0 dX7_addSight_3 (by decide) ?_
    refine lv_icmp_ge (tgt := 57) hx hb0 dX7_addSight_5 (by decide) (fun c_5 => ?_) (fun c_5 => ?_)
    · replace hw := hw.1 c_5
      refine lv_aload_n hx hb0 dX7_addSight_57 rfl (lv_at hl 0 rfl) ?_
      refine lv_dup hx hb0 dX7_addSight_58 rfl ?_
      refine z_getI X hW zC5 (zFY_10 hb) (by decide) rfl zl_X7_43 dX7_addSight_59 ?_
      refine lv_iconst (v := (1 : Int32)) hx hb0 dX7_addSight_62 (by decide) ?_
      refine lv_iadd hx hb0 dX7_addSight_63 ?_
      refine z_put (ty := .int) X hW zC5 (zFY_10 hb) (by decide) rfl zl_X7_43 rfl (by decide +kernel) rfl rfl dX7_addSight_64 (fun M_64 H_64 locs_64 e_64 hW => ?_)
      replace hw := hw M_64 e_64
      exact hret _ ls _ _ M_64 L dX7_addSight_67 hw hW
    · replace hw := hw.2 c_5
      refine lv_iconst (v := (1 : Int32)) hx hb0 dX7_addSight_8 (by decide) ?_
      refine lv_iload_n hx hb0 dX7_addSight_9 rfl (lv_at hl 1 rfl) ?_
      refine lv_iload_n hx hb0 dX7_addSight_10 rfl (lv_at hl 3 rfl) ?_
      refine z_SNi X zc_X3_around zt_X3_around zn_X7_102 rfl ⟨rfl, rfl⟩ ⟨Nat.le_of_ble_eq_true rfl, Nat.le_of_ble_eq_true rfl⟩ (kX3_around l D cy ad X.2.2.2.1 v1 v3) hW hw hl.1 rfl rfl (Nat.le_of_ble_eq_true rfl) dX7_addSight_11 (fun r_11 M_11 L_11 H_11 locs_11 hw hW => ?_)
      refine lv_ishl hx hb0 dX7_addSight_14 ?_
      refine lv_topi (fun a_15 e_15 => ?_)
      replace hw := hw a_15 e_15
      refine lv_istore (lv' := [(4, .int a_15), (0, .ref (ad b)), (1, .int v1), (2, .int v2), (3, .int v3)]) hx hb0 dX7_addSight_15 hl (by decide) rfl (fun ls hl => ?_)
      refine lv_iload_n hx hb0 dX7_addSight_17 rfl (lv_at hl 3 rfl) ?_
      refine lv_iload_n hx hb0 dX7_addSight_18 rfl (lv_at hl 4 rfl) ?_
      refine z_SNi X zc_X8_bit zt_X8_bit zn_X7_62 rfl ⟨rfl, rfl⟩ ⟨Nat.le_of_ble_eq_true rfl, Nat.le_of_ble_eq_true rfl⟩ (kX8_bit l D cy ad X.2.2.2.1 v2 v3) hW hw hl.1 rfl rfl (Nat.le_of_ble_eq_true rfl) dX7_addSight_19 (fun r_19 M_19 L_19 H_19 locs_19 hw hW => ?_)
      refine lv_iconst (v := (1 : Int32)) hx hb0 dX7_addSight_22 (by decide) ?_
      refine lv_icmp_ne (tgt := 40) hx hb0 dX7_addSight_23 (by decide) (fun c_23 => ?_) (fun c_23 => ?_)
      · replace hw := hw.1 c_23
        refine lv_aload_n hx hb0 dX7_addSight_40 rfl (lv_at hl 1 rfl) ?_
        refine lv_dup hx hb0 dX7_addSight_41 rfl ?_
        refine z_getI X hW zC5 (zFY_12 hb) (by decide) rfl zl_X7_49 dX7_addSight_42 ?_
        refine lv_iload hx hb0 dX7_addSight_45 (lv_at hl 0 rfl) ?_
        refine lv_ior hx hb0 dX7_addSight_47 ?_
        refine z_put (ty := .int) X hW zC5 (zFY_12 hb) (by decide) rfl zl_X7_49 rfl (by decide +kernel) rfl rfl dX7_addSight_48 (fun M_48 H_48 locs_48 e_48 hW => ?_)
        replace hw := hw M_48 e_48
        exact mX7_addSight_51 X hb post hret K2 hK2 M_48 L_19 v1 v2 v3 _ _ ls hw hW (lv_sub hl [1, 2, 3, 4] rfl)
      · replace hw := hw.2 c_23
        refine lv_aload_n hx hb0 dX7_addSight_26 rfl (lv_at hl 1 rfl) ?_
        refine lv_dup hx hb0 dX7_addSight_27 rfl ?_
        refine z_getI X hW zC5 (zFY_11 hb) (by decide) rfl zl_X7_46 dX7_addSight_28 ?_
        refine lv_iload hx hb0 dX7_addSight_31 (lv_at hl 0 rfl) ?_
        refine lv_ior hx hb0 dX7_addSight_33 ?_
        refine z_put (ty := .int) X hW zC5 (zFY_11 hb) (by decide) rfl zl_X7_46 rfl (by decide +kernel) rfl rfl dX7_addSight_34 (fun M_34 H_34 locs_34 e_34 hW => ?_)
        replace hw := hw M_34 e_34
        refine lv_goto (tgt := 51) hx hb0 dX7_addSight_37 (by decide) ?_
        exact mX7_addSight_51 X hb post hret K2 hK2 M_34 L_19 v1 v2 v3 _ _ ls hw hW (lv_sub hl [1, 2, 3, 4] rfl)
set_option maxRecDepth 20000 in
set_option maxHeartbeats 4000000 in
theorem mX7_addSight {p : Program} {l : Launch} {e : Env} {s : State} {m : MethodId} {args : Array Value} {below : List Frame} {meth : Method} {c : Code} {cells slots : Nat} {Q : State → Prop} {D : va_G} {cy : Nat → ClassId} {ad : Nat → Nat} {A : Nat → Prop} (X : zCx p rmX7_addSight s m args c cells slots cX7_addSight 5 RX7 D cy ad A) {b : Nat} (hb : isY b) (post : Mm → Ml → Prop) (hret : zRv p l e rmX7_addSight s m args below meth c cells slots Q cX7_addSight D cy ad A post) : ∀ (M : Mm) (L : Ml) (x1 : Int32) (x2 : Int32) (H : Heap) (locs : List Loc) (ls : Array Slot), wpX7_addSight b x1 x2 M L post → zWd D cy ad A s H locs M L → lv_has ls 5 [(0, .ref (ad b)), (1, .int x1), (2, .int x2)] → W p l e rmX7_addSight s m args below meth c H locs cells slots Q (F0 m 0 ls []) := by
  have hx := X.1.1; have hb0 := X.1.2.1; have hts := X.1.2.2.2.2
  intro M L x1 x2 H locs ls hw hW hl
  unfold wpX7_addSight at hw
  refine lv_iconst (v := (0 : Int32)) hx hb0 dX7_addSight_0 (by decide) ?_
  refine lv_istore_n (lv' := [(3, .int (0 : Int32)), (0, .ref (ad b)), (1, .int x1), (2, .int x2)]) hx hb0 dX7_addSight_1 rfl hl (by decide) rfl (fun ls hl => ?_)
  obtain ⟨n_2, hw⟩ := hw
  exact mX7_addSight_2 X hb post hret n_2 M L x1 x2 (0 : Int32) _ _ ls hw hW (lv_sub hl [1, 2, 3, 0] rfl)
theorem kX7_addSight (l : Launch) (D : va_G) (cy : Nat → ClassId) (ad : Nat → Nat) (hi : zInj ad) {b : Nat} (hb : isY b) (x1 : Int32) (x2 : Int32) : zMv l yX7_addSight (.code yX7_addSight cX7_addSight 5 none :: zG) rmX7_addSight D cy ad [.ref (ad b), .int x1, .int x2] (wpX7_addSight b x1 x2) :=
  zMv_of (by decide +kernel) (Nat.le_of_ble_eq_true rfl) hi (fun X M L post _ hret ls hl hw hW => mX7_addSight X hb post hret M L x1 x2 _ _ ls hw hW hl)
abbrev rmX7_fits : Room := { frames := 0, cells := 0, slots := 0, locals := 0 }
set_option maxRecDepth 20000 in
set_option maxHeartbeats 4000000 in
theorem mX7_fits_27 {p : Program} {l : Launch} {e : Env} {s : State} {m : MethodId} {args : Array Value} {below : List Frame} {meth : Method} {c : Code} {cells slots : Nat} {Q : State → Prop} {D : va_G} {cy : Nat → ClassId} {ad : Nat → Nat} {A : Nat → Prop} (X : zCx p rmX7_fits s m args c cells slots cX7_fits 2 RX7 D cy ad A) {b : Nat} (hb : isY b) (post : Int32 → Mm → Ml → Prop) (hret : zRi p l e rmX7_fits s m args below meth c cells slots Q cX7_fits D cy ad A .boolean post) : ∀ (M : Mm) (L : Ml) (s0 : Int32) (H : Heap) (locs : List Loc) (ls : Array Slot), wpX7_fits_27 b post M L s0 → zWd D cy ad A s H locs M L → lv_has ls 2 [] → W p l e rmX7_fits s m args below meth c H locs cells slots Q (F0 m 27 ls [.int s0]) := by
  have hx := X.1.1; have hb0 := X.1.2.1; have hts := X.1.2.2.2.2
  intro M L s0 H locs ls hw hW hl
  unfold wpX7_fits_27 at hw
  exact hret _ ls _ _ s0 M L dX7_fits_27 (z_bool hw.1) hw.2 hW
set_option maxRecDepth 20000 in
set_option maxHeartbeats 4000000 in
theorem mX7_fits_26 {p : Program} {l : Launch} {e : Env} {s : State} {m : MethodId} {args : Array Value} {below : List Frame} {meth : Method} {c : Code} {cells slots : Nat} {Q : State → Prop} {D : va_G} {cy : Nat → ClassId} {ad : Nat → Nat} {A : Nat → Prop} (X : zCx p rmX7_fits s m args c cells slots cX7_fits 2 RX7 D cy ad A) {b : Nat} (hb : isY b) (post : Int32 → Mm → Ml → Prop) (hret : zRi p l e rmX7_fits s m args below meth c cells slots Q cX7_fits D cy ad A .boolean post) : ∀ (M : Mm) (L : Ml) (H : Heap) (locs : List Loc) (ls : Array Slot), wpX7_fits_26 b post M L → zWd D cy ad A s H locs M L → lv_has ls 2 [] → W p l e rmX7_fits s m args below meth c H locs cells slots Q (F0 m 26 ls []) := by
  have hx := X.1.1; have hb0 := X.1.2.1; have hts := X.1.2.2.2.2
  intro M L H locs ls hw hW hl
  unfold wpX7_fits_26 at hw
  refine lv_iconst (v := (0 : Int32)) hx hb0 dX7_fits_26 (by decide) ?_
  exact mX7_fits_27 X hb post hret M L (0 : Int32) _ _ ls hw hW (lv_sub hl [] rfl)
set_option maxRecDepth 20000 in
set_option maxHeartbeats 4000000 in
theorem mX7_fits {p : Program} {l : Launch} {e : Env} {s : State} {m : MethodId} {args : Array Value} {below : List Frame} {meth : Method} {c : Code} {cells slots : Nat} {Q : State → Prop} {D : va_G} {cy : Nat → ClassId} {ad : Nat → Nat} {A : Nat → Prop} (X : zCx p rmX7_fits s m args c cells slots cX7_fits 2 RX7 D cy ad A) {b : Nat} (hb : isY b) (post : Int32 → Mm → Ml → Prop) (hret : zRi p l e rmX7_fits s m args below meth c cells slots Q cX7_fits D cy ad A .boolean post) : ∀ (M : Mm) (L : Ml) (x1 : Int32) (H : Heap) (locs : List Loc) (ls : Array Slot), wpX7_fits b x1 M L post → zWd D cy ad A s H locs M L → lv_has ls 2 [(0, .ref (ad b)), (1, .int x1)] → W p l e rmX7_fits s m args below meth c H locs cells slots Q (F0 m 0 ls []) := by
  have hx := X.1.1; have hb0 := X.1.2.1; have hts := X.1.2.2.2.2
  intro M L x1 H locs ls hw hW hl
  unfold wpX7_fits at hw
  refine lv_iload_n hx hb0 dX7_fits_0 rfl (lv_at hl 1 rfl) ?_
  refine lv_aload_n hx hb0 dX7_fits_1 rfl (lv_at hl 0 rfl) ?_
  refine z_getI X hW zC5 (zFY_11 hb) (by decide) rfl zl_X7_46 dX7_fits_2 ?_
  refine lv_iand hx hb0 dX7_fits_5 ?_
  refine lv_aload_n hx hb0 dX7_fits_6 rfl (lv_at hl 0 rfl) ?_
  refine z_getI X hW zC5 (zFY_11 hb) (by decide) rfl zl_X7_46 dX7_fits_7 ?_
  refine lv_icmp_ne (tgt := 26) hx hb0 dX7_fits_10 (by decide) (fun c_10 => ?_) (fun c_10 => ?_)
  · replace hw := hw.1 c_10
    exact mX7_fits_26 X hb post hret M L _ _ ls hw hW (lv_sub hl [] rfl)
  · replace hw := hw.2 c_10
    refine lv_iload_n hx hb0 dX7_fits_13 rfl (lv_at hl 1 rfl) ?_
    refine lv_aload_n hx hb0 dX7_fits_14 rfl (lv_at hl 0 rfl) ?_
    refine z_getI X hW zC5 (zFY_12 hb) (by decide) rfl zl_X7_49 dX7_fits_15 ?_
    refine lv_iand hx hb0 dX7_fits_18 ?_
    refine lv_if_ne (tgt := 26) hx hb0 dX7_fits_19 (by decide) (fun c_19 => ?_) (fun c_19 => ?_)
    · replace hw := hw.1 c_19
      exact mX7_fits_26 X hb post hret M L _ _ ls hw hW (lv_sub hl [] rfl)
    · replace hw := hw.2 c_19
      refine lv_iconst (v := (1 : Int32)) hx hb0 dX7_fits_22 (by decide) ?_
      refine lv_goto (tgt := 27) hx hb0 dX7_fits_23 (by decide) ?_
      exact mX7_fits_27 X hb post hret M L (1 : Int32) _ _ ls hw hW (lv_sub hl [] rfl)
theorem kX7_fits (l : Launch) (D : va_G) (cy : Nat → ClassId) (ad : Nat → Nat) (hi : zInj ad) {b : Nat} (hb : isY b) (x1 : Int32) : zMi l yX7_fits (.code yX7_fits cX7_fits 2 (some .boolean) :: zG) rmX7_fits D cy ad [.ref (ad b), .int x1] (wpX7_fits b x1) :=
  zMi_of (by decide +kernel) (Nat.le_of_ble_eq_true rfl) hi (fun X M L post _ hret ls hl hw hW => mX7_fits X hb post hret M L x1 _ _ ls hw hW hl)
abbrev rmX7_lawsLeftBy : Room := { frames := 1, cells := 0, slots := 0, locals := 21 }
set_option maxRecDepth 20000 in
set_option maxHeartbeats 4000000 in
theorem mX7_lawsLeftBy_12 {p : Program} {l : Launch} {e : Env} {s : State} {m : MethodId} {args : Array Value} {below : List Frame} {meth : Method} {c : Code} {cells slots : Nat} {Q : State → Prop} {D : va_G} {cy : Nat → ClassId} {ad : Nat → Nat} {A : Nat → Prop} (X : zCx p rmX7_lawsLeftBy s m args c cells slots cX7_lawsLeftBy 4 RX7 D cy ad A) {b : Nat} (hb : isY b) (post : Int32 → Mm → Ml → Prop) (hret : zRi p l e rmX7_lawsLeftBy s m args below meth c cells slots Q cX7_lawsLeftBy D cy ad A .int post) : ∀ (j9 : Nat) (M : Mm) (L : Ml) (v1 : Int32) (v2 : Int32) (v3 : Int32) (H : Heap) (locs : List Loc) (ls : Array Slot), wlX7_lawsLeftBy_12 b post j9 (M, L, v1, v2, v3) → zWd D cy ad A s H locs M L → lv_has ls 4 [(1, .int v1), (2, .int v2), (3, .int v3)] → W p l e rmX7_lawsLeftBy s m args below meth c H locs cells slots Q (F0 m 12 ls []) := by
  have hx := X.1.1; have hb0 := X.1.2.1; have hts := X.1.2.2.2.2
  intro j9
  induction j9 with
  | zero => intro M L v1 v2 v3 H locs ls hw; exact hw.elim
  | succ j9 ih =>
    obtain ⟨K12, hKe⟩ : ∃ K : Mm → Ml → Int32 → Int32 → Int32 → Prop, K = fun M L v1 v2 v3 => wlX7_lawsLeftBy_12 b post j9 (M, L, v1, v2, v3) := ⟨_, rfl⟩
    have hK12 : ∀ (M : Mm) (L : Ml) (v1 : Int32) (v2 : Int32) (v3 : Int32) (H : Heap) (locs : List Loc) (ls : Array Slot), K12 M L v1 v2 v3 → zWd D cy ad A s H locs M L → lv_has ls 4 [(1, .int v1), (2, .int v2), (3, .int v3)] → W p l e rmX7_lawsLeftBy s m args below meth c H locs cells slots Q (F0 m 12 ls []) := by intro M L v1 v2 v3 H locs ls hw; rw [hKe] at hw; exact ih M L v1 v2 v3 H locs ls hw
    intro M L v1 v2 v3 H locs ls hw hW hl
    have hw : wpX7_lawsLeftBy_12 b post K12 M L v1 v2 v3 := by rw [hKe]; exact hw
    clear ih
    unfold wpX7_lawsLeftBy_12 at hw
    refine lv_iload_n hx hb0 dX7_lawsLeftBy_12 rfl (lv_at hl 2 rfl) ?_
    refine lv_bipush (v := (8 : Int32)) hx hb0 dX7_lawsLeftBy_13 (by decide) ?_
    refine lv_icmp_ge (tgt := 34) hx hb0 dX7_lawsLeftBy_15 (by decide) (fun c_15 => ?_) (fun c_15 => ?_)
    · replace hw := hw.1 c_15
      refine lv_iconst (v := (1 : Int32)) hx hb0 dX7_lawsLeftBy_34 (by decide) ?_
      refine lv_bipush (v := (8 : Int32)) hx hb0 dX7_lawsLeftBy_35 (by decide) ?_
      refine lv_iload_n hx hb0 dX7_lawsLeftBy_37 rfl (lv_at hl 1 rfl) ?_
      refine z_Si X zc_J6_bitCount_0f7a4 zt_J6_bitCount_0f7a4 zl_X7_105 rfl ⟨rfl, rfl⟩ ⟨Nat.le_of_ble_eq_true rfl, Nat.le_of_ble_eq_true rfl⟩ (kJ6_bitCount_0f7a4 l D cy ad X.2.2.2.1 v2) hW hw hl.1 rfl rfl (Nat.le_of_ble_eq_true rfl) dX7_lawsLeftBy_38 (fun r_38 M_38 L_38 H_38 locs_38 hw hW => ?_)
      refine lv_isub hx hb0 dX7_lawsLeftBy_41 ?_
      refine lv_ishl hx hb0 dX7_lawsLeftBy_42 ?_
      exact hret _ ls _ _ ((1 : Int32) <<< (((8 : Int32) - r_38) &&& 31)) M_38 L_38 dX7_lawsLeftBy_43 rfl hw hW
    · replace hw := hw.2 c_15
      refine lv_iload_n hx hb0 dX7_lawsLeftBy_18 rfl (lv_at hl 1 rfl) ?_
      refine lv_iconst (v := (1 : Int32)) hx hb0 dX7_lawsLeftBy_19 (by decide) ?_
      refine lv_iload_n hx hb0 dX7_lawsLeftBy_20 rfl (lv_at hl 0 rfl) ?_
      refine lv_iload_n hx hb0 dX7_lawsLeftBy_21 rfl (lv_at hl 2 rfl) ?_
      refine z_SNi X zc_X3_around zt_X3_around zn_X7_102 rfl ⟨rfl, rfl⟩ ⟨Nat.le_of_ble_eq_true rfl, Nat.le_of_ble_eq_true rfl⟩ (kX3_around l D cy ad X.2.2.2.1 v1 v3) hW hw hl.1 rfl rfl (Nat.le_of_ble_eq_true rfl) dX7_lawsLeftBy_22 (fun r_22 M_22 L_22 H_22 locs_22 hw hW => ?_)
      refine lv_ishl hx hb0 dX7_lawsLeftBy_25 ?_
      refine lv_ior hx hb0 dX7_lawsLeftBy_26 ?_
      refine lv_topi (fun a_27 e_27 => ?_)
      replace hw := hw a_27 e_27
      refine lv_istore_n (lv' := [(2, .int a_27), (1, .int v1), (3, .int v3)]) hx hb0 dX7_lawsLeftBy_27 rfl hl (by decide) rfl (fun ls hl => ?_)
      obtain ⟨a_28, e_28⟩ : ∃ y : Int32, y = v3 + (1 : Int32) := ⟨_, rfl⟩
      replace hw := hw a_28 e_28
      refine lv_iinc (v := a_28) (lv' := [(3, .int a_28), (2, .int a_27), (1, .int v1)]) hx hb0 dX7_lawsLeftBy_28 hl (k := 2) rfl (by rw [e_28]; rfl) (by decide) rfl (fun ls hl => ?_)
      refine lv_goto (tgt := 12) hx hb0 dX7_lawsLeftBy_31 (by decide) ?_
      exact hK12 M_22 L_22 v1 a_27 a_28 _ _ ls hw hW (lv_sub hl [2, 1, 0] rfl)
set_option maxRecDepth 20000 in
set_option maxHeartbeats 4000000 in
theorem mX7_lawsLeftBy {p : Program} {l : Launch} {e : Env} {s : State} {m : MethodId} {args : Array Value} {below : List Frame} {meth : Method} {c : Code} {cells slots : Nat} {Q : State → Prop} {D : va_G} {cy : Nat → ClassId} {ad : Nat → Nat} {A : Nat → Prop} (X : zCx p rmX7_lawsLeftBy s m args c cells slots cX7_lawsLeftBy 4 RX7 D cy ad A) {b : Nat} (hb : isY b) (post : Int32 → Mm → Ml → Prop) (hret : zRi p l e rmX7_lawsLeftBy s m args below meth c cells slots Q cX7_lawsLeftBy D cy ad A .int post) : ∀ (M : Mm) (L : Ml) (x1 : Int32) (H : Heap) (locs : List Loc) (ls : Array Slot), wpX7_lawsLeftBy b x1 M L post → zWd D cy ad A s H locs M L → lv_has ls 4 [(0, .ref (ad b)), (1, .int x1)] → W p l e rmX7_lawsLeftBy s m args below meth c H locs cells slots Q (F0 m 0 ls []) := by
  have hx := X.1.1; have hb0 := X.1.2.1; have hts := X.1.2.2.2.2
  intro M L x1 H locs ls hw hW hl
  unfold wpX7_lawsLeftBy at hw
  refine lv_aload_n hx hb0 dX7_lawsLeftBy_0 rfl (lv_at hl 0 rfl) ?_
  refine z_getI X hW zC5 (zFY_11 hb) (by decide) rfl zl_X7_46 dX7_lawsLeftBy_1 ?_
  refine lv_aload_n hx hb0 dX7_lawsLeftBy_4 rfl (lv_at hl 0 rfl) ?_
  refine z_getI X hW zC5 (zFY_12 hb) (by decide) rfl zl_X7_49 dX7_lawsLeftBy_5 ?_
  refine lv_ior hx hb0 dX7_lawsLeftBy_8 ?_
  refine lv_topi (fun a_9 e_9 => ?_)
  replace hw := hw a_9 e_9
  refine lv_istore_n (lv' := [(2, .int a_9), (0, .ref (ad b)), (1, .int x1)]) hx hb0 dX7_lawsLeftBy_9 rfl hl (by decide) rfl (fun ls hl => ?_)
  refine lv_iconst (v := (0 : Int32)) hx hb0 dX7_lawsLeftBy_10 (by decide) ?_
  refine lv_istore_n (lv' := [(3, .int (0 : Int32)), (2, .int a_9), (0, .ref (ad b)), (1, .int x1)]) hx hb0 dX7_lawsLeftBy_11 rfl hl (by decide) rfl (fun ls hl => ?_)
  obtain ⟨n_12, hw⟩ := hw
  exact mX7_lawsLeftBy_12 X hb post hret n_12 M L x1 a_9 (0 : Int32) _ _ ls hw hW (lv_sub hl [3, 1, 0] rfl)
theorem kX7_lawsLeftBy (l : Launch) (D : va_G) (cy : Nat → ClassId) (ad : Nat → Nat) (hi : zInj ad) {b : Nat} (hb : isY b) (x1 : Int32) : zMi l yX7_lawsLeftBy (.code yX7_lawsLeftBy cX7_lawsLeftBy 4 (some .int) :: zG) rmX7_lawsLeftBy D cy ad [.ref (ad b), .int x1] (wpX7_lawsLeftBy b x1) :=
  zMi_of (by decide +kernel) (Nat.le_of_ble_eq_true rfl) hi (fun X M L post _ hret ls hl hw hW => mX7_lawsLeftBy X hb post hret M L x1 _ _ ls hw hW hl)
abbrev rmX8_flake : Room := { frames := 1, cells := 0, slots := 0, locals := 25 }
set_option maxRecDepth 20000 in
set_option maxHeartbeats 4000000 in
theorem mX8_flake_19 {p : Program} {l : Launch} {e : Env} {s : State} {m : MethodId} {args : Array Value} {below : List Frame} {meth : Method} {c : Code} {cells slots : Nat} {Q : State → Prop} {D : va_G} {cy : Nat → ClassId} {ad : Nat → Nat} {A : Nat → Prop} (X : zCx p rmX8_flake s m args c cells slots cX8_flake 6 RX8 D cy ad A) (post : Int32 → Mm → Ml → Prop) (hret : zRi p l e rmX8_flake s m args below meth c cells slots Q cX8_flake D cy ad A .int post) : ∀ (M : Mm) (L : Ml) (H : Heap) (locs : List Loc) (ls : Array Slot), wpX8_flake_19 post M L → zWd D cy ad A s H locs M L → lv_has ls 6 [] → W p l e rmX8_flake s m args below meth c H locs cells slots Q (F0 m 19 ls []) := by
  have hx := X.1.1; have hb0 := X.1.2.1; have hts := X.1.2.2.2.2
  intro M L H locs ls hw hW hl
  unfold wpX8_flake_19 at hw
  refine lv_iconst (v := (-1 : Int32)) hx hb0 dX8_flake_19 (by decide) ?_
  exact hret _ ls _ _ (-1 : Int32) M L dX8_flake_20 rfl hw hW
set_option maxRecDepth 20000 in
set_option maxHeartbeats 4000000 in
theorem mX8_flake_50 {p : Program} {l : Launch} {e : Env} {s : State} {m : MethodId} {args : Array Value} {below : List Frame} {meth : Method} {c : Code} {cells slots : Nat} {Q : State → Prop} {D : va_G} {cy : Nat → ClassId} {ad : Nat → Nat} {A : Nat → Prop} (X : zCx p rmX8_flake s m args c cells slots cX8_flake 6 RX8 D cy ad A) (post : Int32 → Mm → Ml → Prop) (hret : zRi p l e rmX8_flake s m args below meth c cells slots Q cX8_flake D cy ad A .int post) : ∀ (M : Mm) (L : Ml) (H : Heap) (locs : List Loc) (ls : Array Slot), wpX8_flake_50 post M L → zWd D cy ad A s H locs M L → lv_has ls 6 [] → W p l e rmX8_flake s m args below meth c H locs cells slots Q (F0 m 50 ls []) := by
  have hx := X.1.1; have hb0 := X.1.2.1; have hts := X.1.2.2.2.2
  intro M L H locs ls hw hW hl
  unfold wpX8_flake_50 at hw
  refine lv_bipush (v := (-2 : Int32)) hx hb0 dX8_flake_50 (by decide) ?_
  exact hret _ ls _ _ (-2 : Int32) M L dX8_flake_52 rfl hw hW
set_option maxRecDepth 20000 in
set_option maxHeartbeats 4000000 in
theorem mX8_flake {p : Program} {l : Launch} {e : Env} {s : State} {m : MethodId} {args : Array Value} {below : List Frame} {meth : Method} {c : Code} {cells slots : Nat} {Q : State → Prop} {D : va_G} {cy : Nat → ClassId} {ad : Nat → Nat} {A : Nat → Prop} (X : zCx p rmX8_flake s m args c cells slots cX8_flake 6 RX8 D cy ad A) (post : Int32 → Mm → Ml → Prop) (hret : zRi p l e rmX8_flake s m args below meth c cells slots Q cX8_flake D cy ad A .int post) : ∀ (M : Mm) (L : Ml) (x1 : Int32) (x2 : Int32) (x3 : Int32) (x4 : Int32) (x5 : Int32) (H : Heap) (locs : List Loc) (ls : Array Slot), wpX8_flake x1 x2 x3 x4 x5 M L post → zWd D cy ad A s H locs M L → lv_has ls 6 [(0, .ref (ad 0)), (1, .int x1), (2, .int x2), (3, .int x3), (4, .int x4), (5, .int x5)] → W p l e rmX8_flake s m args below meth c H locs cells slots Q (F0 m 0 ls []) := by
  have hx := X.1.1; have hb0 := X.1.2.1; have hts := X.1.2.2.2.2
  intro M L x1 x2 x3 x4 x5 H locs ls hw hW hl
  unfold wpX8_flake at hw
  refine lv_iload_n hx hb0 dX8_flake_0 rfl (lv_at hl 1 rfl) ?_
  refine lv_bipush (v := (8 : Int32)) hx hb0 dX8_flake_1 (by decide) ?_
  refine z_Si X zc_X8_isBelow zt_X8_isBelow zl_X8_59 rfl ⟨rfl, rfl⟩ ⟨Nat.le_of_ble_eq_true rfl, Nat.le_of_ble_eq_true rfl⟩ (kX8_isBelow l D cy ad X.2.2.2.1 x1 (8 : Int32)) hW hw hl.1 rfl rfl (Nat.le_of_ble_eq_true rfl) dX8_flake_3 (fun r_3 M_3 L_3 H_3 locs_3 hw hW => ?_)
  refine lv_if_eq (tgt := 19) hx hb0 dX8_flake_6 (by decide) (fun c_6 => ?_) (fun c_6 => ?_)
  · replace hw := hw.1 c_6
    exact mX8_flake_19 X post hret M_3 L_3 _ _ ls hw hW (lv_sub hl [] rfl)
  · replace hw := hw.2 c_6
    refine lv_iload hx hb0 dX8_flake_9 (lv_at hl 5 rfl) ?_
    refine lv_bipush (v := (6 : Int32)) hx hb0 dX8_flake_11 (by decide) ?_
    refine z_Si X zc_X8_isBelow zt_X8_isBelow zl_X8_59 rfl ⟨rfl, rfl⟩ ⟨Nat.le_of_ble_eq_true rfl, Nat.le_of_ble_eq_true rfl⟩ (kX8_isBelow l D cy ad X.2.2.2.1 x5 (6 : Int32)) hW hw hl.1 rfl rfl (Nat.le_of_ble_eq_true rfl) dX8_flake_13 (fun r_13 M_13 L_13 H_13 locs_13 hw hW => ?_)
    refine lv_if_ne (tgt := 21) hx hb0 dX8_flake_16 (by decide) (fun c_16 => ?_) (fun c_16 => ?_)
    · replace hw := hw.1 c_16
      refine lv_iload_n hx hb0 dX8_flake_21 rfl (lv_at hl 2 rfl) ?_
      refine lv_sipush (v := (256 : Int32)) hx hb0 dX8_flake_22 (by decide) ?_
      refine z_Si X zc_X8_isBelow zt_X8_isBelow zl_X8_59 rfl ⟨rfl, rfl⟩ ⟨Nat.le_of_ble_eq_true rfl, Nat.le_of_ble_eq_true rfl⟩ (kX8_isBelow l D cy ad X.2.2.2.1 x2 (256 : Int32)) hW hw hl.1 rfl rfl (Nat.le_of_ble_eq_true rfl) dX8_flake_25 (fun r_25 M_25 L_25 H_25 locs_25 hw hW => ?_)
      refine lv_if_eq (tgt := 50) hx hb0 dX8_flake_28 (by decide) (fun c_28 => ?_) (fun c_28 => ?_)
      · replace hw := hw.1 c_28
        exact mX8_flake_50 X post hret M_25 L_25 _ _ ls hw hW (lv_sub hl [] rfl)
      · replace hw := hw.2 c_28
        refine lv_iload_n hx hb0 dX8_flake_31 rfl (lv_at hl 3 rfl) ?_
        refine lv_bipush (v := (16 : Int32)) hx hb0 dX8_flake_32 (by decide) ?_
        refine z_Si X zc_X8_isBelow zt_X8_isBelow zl_X8_59 rfl ⟨rfl, rfl⟩ ⟨Nat.le_of_ble_eq_true rfl, Nat.le_of_ble_eq_true rfl⟩ (kX8_isBelow l D cy ad X.2.2.2.1 x3 (16 : Int32)) hW hw hl.1 rfl rfl (Nat.le_of_ble_eq_true rfl) dX8_flake_34 (fun r_34 M_34 L_34 H_34 locs_34 hw hW => ?_)
        refine lv_if_eq (tgt := 50) hx hb0 dX8_flake_37 (by decide) (fun c_37 => ?_) (fun c_37 => ?_)
        · replace hw := hw.1 c_37
          exact mX8_flake_50 X post hret M_34 L_34 _ _ ls hw hW (lv_sub hl [] rfl)
        · replace hw := hw.2 c_37
          refine lv_iload hx hb0 dX8_flake_40 (lv_at hl 4 rfl) ?_
          refine lv_bipush (v := (10 : Int32)) hx hb0 dX8_flake_42 (by decide) ?_
          refine z_Si X zc_X8_isBelow zt_X8_isBelow zl_X8_59 rfl ⟨rfl, rfl⟩ ⟨Nat.le_of_ble_eq_true rfl, Nat.le_of_ble_eq_true rfl⟩ (kX8_isBelow l D cy ad X.2.2.2.1 x4 (10 : Int32)) hW hw hl.1 rfl rfl (Nat.le_of_ble_eq_true rfl) dX8_flake_44 (fun r_44 M_44 L_44 H_44 locs_44 hw hW => ?_)
          refine lv_if_ne (tgt := 53) hx hb0 dX8_flake_47 (by decide) (fun c_47 => ?_) (fun c_47 => ?_)
          · replace hw := hw.1 c_47
            refine lv_aload_n hx hb0 dX8_flake_53 rfl (lv_at hl 0 rfl) ?_
            refine z_getR (k2 := 14) X hW zC6 zR_0_0 (by decide) rfl zl_X8_10 dX8_flake_54 ?_
            refine lv_iload_n hx hb0 dX8_flake_57 rfl (lv_at hl 1 rfl) ?_
            refine lv_iload_n hx hb0 dX8_flake_58 rfl (lv_at hl 2 rfl) ?_
            refine lv_iload_n hx hb0 dX8_flake_59 rfl (lv_at hl 3 rfl) ?_
            refine lv_iload hx hb0 dX8_flake_60 (lv_at hl 4 rfl) ?_
            refine lv_iload hx hb0 dX8_flake_62 (lv_at hl 5 rfl) ?_
            refine z_VNv X (zOY isY_14) zC5 zc_X7_putFlake zs_X7_putFlake zn_X8_63 rfl ⟨rfl, rfl⟩ ⟨Nat.le_of_ble_eq_true rfl, Nat.le_of_ble_eq_true rfl⟩ (kX7_putFlake l D cy ad X.2.2.2.1 isY_14 x1 x2 x3 x4 x5) hW hw hl.1 rfl rfl (Nat.le_of_ble_eq_true rfl) dX8_flake_64 (fun M_64 L_64 H_64 locs_64 hw hW => ?_)
            refine lv_aload_n hx hb0 dX8_flake_67 rfl (lv_at hl 0 rfl) ?_
            refine z_getR (k2 := 14) X hW zC6 zR_0_0 (by decide) rfl zl_X8_10 dX8_flake_68 ?_
            refine z_getIN X hW zC5 (zFY_0 isY_14) (by decide) rfl zn_X8_67 dX8_flake_71 ?_
            refine z_Si X zc_J6_bitCount_0f7a4 zt_J6_bitCount_0f7a4 zl_X8_70 rfl ⟨rfl, rfl⟩ ⟨Nat.le_of_ble_eq_true rfl, Nat.le_of_ble_eq_true rfl⟩ (kJ6_bitCount_0f7a4 l D cy ad X.2.2.2.1 (M_64 14 0)) hW hw hl.1 rfl rfl (Nat.le_of_ble_eq_true rfl) dX8_flake_74 (fun r_74 M_74 L_74 H_74 locs_74 hw hW => ?_)
            exact hret _ ls _ _ r_74 M_74 L_74 dX8_flake_77 rfl hw hW
          · replace hw := hw.2 c_47
            exact mX8_flake_50 X post hret M_44 L_44 _ _ ls hw hW (lv_sub hl [] rfl)
    · replace hw := hw.2 c_16
      exact mX8_flake_19 X post hret M_13 L_13 _ _ ls hw hW (lv_sub hl [] rfl)
theorem kX8_flake (l : Launch) (D : va_G) (cy : Nat → ClassId) (ad : Nat → Nat) (hi : zInj ad) (x1 : Int32) (x2 : Int32) (x3 : Int32) (x4 : Int32) (x5 : Int32) : zMi l yX8_flake (.code yX8_flake cX8_flake 6 (some .int) :: zG) rmX8_flake D cy ad [.ref (ad 0), .int x1, .int x2, .int x3, .int x4, .int x5] (wpX8_flake x1 x2 x3 x4 x5) :=
  zMi_of (by decide +kernel) (Nat.le_of_ble_eq_true rfl) hi (fun X M L post _ hret ls hl hw hW => mX8_flake X post hret M L x1 x2 x3 x4 x5 _ _ ls hw hW hl)
abbrev rmX8_melt : Room := { frames := 2, cells := 0, slots := 0, locals := 42 }
set_option maxRecDepth 20000 in
set_option maxHeartbeats 4000000 in
theorem mX8_melt {p : Program} {l : Launch} {e : Env} {s : State} {m : MethodId} {args : Array Value} {below : List Frame} {meth : Method} {c : Code} {cells slots : Nat} {Q : State → Prop} {D : va_G} {cy : Nat → ClassId} {ad : Nat → Nat} {A : Nat → Prop} (X : zCx p rmX8_melt s m args c cells slots cX8_melt 2 RX8 D cy ad A) (post : Int32 → Mm → Ml → Prop) (hret : zRi p l e rmX8_melt s m args below meth c cells slots Q cX8_melt D cy ad A .int post) : ∀ (M : Mm) (L : Ml) (x1 : Int32) (H : Heap) (locs : List Loc) (ls : Array Slot), wpX8_melt x1 M L post → zWd D cy ad A s H locs M L → lv_has ls 2 [(0, .ref (ad 0)), (1, .int x1)] → W p l e rmX8_melt s m args below meth c H locs cells slots Q (F0 m 0 ls []) := by
  have hx := X.1.1; have hb0 := X.1.2.1; have hts := X.1.2.2.2.2
  intro M L x1 H locs ls hw hW hl
  unfold wpX8_melt at hw
  refine lv_aload_n hx hb0 dX8_melt_0 rfl (lv_at hl 0 rfl) ?_
  refine z_getR (k2 := 14) X hW zC6 zR_0_0 (by decide) rfl zl_X8_10 dX8_melt_1 ?_
  refine lv_iload_n hx hb0 dX8_melt_4 rfl (lv_at hl 1 rfl) ?_
  refine z_VNi X (zOY isY_14) zC5 zc_X7_has zs_X7_has zn_X8_76 rfl ⟨rfl, rfl⟩ ⟨Nat.le_of_ble_eq_true rfl, Nat.le_of_ble_eq_true rfl⟩ (kX7_has l D cy ad X.2.2.2.1 isY_14 x1) hW hw hl.1 rfl rfl (Nat.le_of_ble_eq_true rfl) dX8_melt_5 (fun r_5 M_5 L_5 H_5 locs_5 hw hW => ?_)
  refine lv_if_ne (tgt := 13) hx hb0 dX8_melt_8 (by decide) (fun c_8 => ?_) (fun c_8 => ?_)
  · replace hw := hw.1 c_8
    refine lv_aload_n hx hb0 dX8_melt_13 rfl (lv_at hl 0 rfl) ?_
    refine z_getR (k2 := 14) X hW zC6 zR_0_0 (by decide) rfl zl_X8_10 dX8_melt_14 ?_
    refine lv_iload_n hx hb0 dX8_melt_17 rfl (lv_at hl 1 rfl) ?_
    refine z_VNv X (zOY isY_14) zC5 zc_X7_removeFlake zs_X7_removeFlake zn_X8_80 rfl ⟨rfl, rfl⟩ ⟨Nat.le_of_ble_eq_true rfl, Nat.le_of_ble_eq_true rfl⟩ (kX7_removeFlake l D cy ad X.2.2.2.1 isY_14 x1) hW hw hl.1 rfl rfl (Nat.le_of_ble_eq_true rfl) dX8_melt_18 (fun M_18 L_18 H_18 locs_18 hw hW => ?_)
    refine lv_aload_n hx hb0 dX8_melt_21 rfl (lv_at hl 0 rfl) ?_
    refine z_getR (k2 := 14) X hW zC6 zR_0_0 (by decide) rfl zl_X8_10 dX8_melt_22 ?_
    refine z_getIN X hW zC5 (zFY_0 isY_14) (by decide) rfl zn_X8_67 dX8_melt_25 ?_
    refine z_Si X zc_J6_bitCount_0f7a4 zt_J6_bitCount_0f7a4 zl_X8_70 rfl ⟨rfl, rfl⟩ ⟨Nat.le_of_ble_eq_true rfl, Nat.le_of_ble_eq_true rfl⟩ (kJ6_bitCount_0f7a4 l D cy ad X.2.2.2.1 (M_18 14 0)) hW hw hl.1 rfl rfl (Nat.le_of_ble_eq_true rfl) dX8_melt_28 (fun r_28 M_28 L_28 H_28 locs_28 hw hW => ?_)
    exact hret _ ls _ _ r_28 M_28 L_28 dX8_melt_31 rfl hw hW
  · replace hw := hw.2 c_8
    refine lv_iconst (v := (-1 : Int32)) hx hb0 dX8_melt_11 (by decide) ?_
    exact hret _ ls _ _ (-1 : Int32) M_5 L_5 dX8_melt_12 rfl hw hW
theorem kX8_melt (l : Launch) (D : va_G) (cy : Nat → ClassId) (ad : Nat → Nat) (hi : zInj ad) (x1 : Int32) : zMi l yX8_melt (.code yX8_melt cX8_melt 2 (some .int) :: zG) rmX8_melt D cy ad [.ref (ad 0), .int x1] (wpX8_melt x1) :=
  zMi_of (by decide +kernel) (Nat.le_of_ble_eq_true rfl) hi (fun X M L post _ hret ls hl hw hW => mX8_melt X post hret M L x1 _ _ ls hw hW hl)
abbrev rmX8_stand : Room := { frames := 1, cells := 0, slots := 0, locals := 21 }
set_option maxRecDepth 20000 in
set_option maxHeartbeats 4000000 in
theorem mX8_stand {p : Program} {l : Launch} {e : Env} {s : State} {m : MethodId} {args : Array Value} {below : List Frame} {meth : Method} {c : Code} {cells slots : Nat} {Q : State → Prop} {D : va_G} {cy : Nat → ClassId} {ad : Nat → Nat} {A : Nat → Prop} (X : zCx p rmX8_stand s m args c cells slots cX8_stand 4 RX8 D cy ad A) (post : Int32 → Mm → Ml → Prop) (hret : zRi p l e rmX8_stand s m args below meth c cells slots Q cX8_stand D cy ad A .int post) : ∀ (M : Mm) (L : Ml) (x1 : Int32) (x2 : Int32) (H : Heap) (locs : List Loc) (ls : Array Slot), wpX8_stand x1 x2 M L post → zWd D cy ad A s H locs M L → lv_has ls 4 [(0, .ref (ad 0)), (1, .int x1), (2, .int x2)] → W p l e rmX8_stand s m args below meth c H locs cells slots Q (F0 m 0 ls []) := by
  have hx := X.1.1; have hb0 := X.1.2.1; have hts := X.1.2.2.2.2
  intro M L x1 x2 H locs ls hw hW hl
  unfold wpX8_stand at hw
  refine lv_iload_n hx hb0 dX8_stand_0 rfl (lv_at hl 1 rfl) ?_
  refine lv_bipush (v := (6 : Int32)) hx hb0 dX8_stand_1 (by decide) ?_
  refine z_Si X zc_X8_isBelow zt_X8_isBelow zl_X8_59 rfl ⟨rfl, rfl⟩ ⟨Nat.le_of_ble_eq_true rfl, Nat.le_of_ble_eq_true rfl⟩ (kX8_isBelow l D cy ad X.2.2.2.1 x1 (6 : Int32)) hW hw hl.1 rfl rfl (Nat.le_of_ble_eq_true rfl) dX8_stand_3 (fun r_3 M_3 L_3 H_3 locs_3 hw hW => ?_)
  refine lv_if_ne (tgt := 11) hx hb0 dX8_stand_6 (by decide) (fun c_6 => ?_) (fun c_6 => ?_)
  · replace hw := hw.1 c_6
    refine lv_iload_n hx hb0 dX8_stand_11 rfl (lv_at hl 2 rfl) ?_
    refine lv_bipush (v := (16 : Int32)) hx hb0 dX8_stand_12 (by decide) ?_
    refine z_Si X zc_X8_isBelow zt_X8_isBelow zl_X8_59 rfl ⟨rfl, rfl⟩ ⟨Nat.le_of_ble_eq_true rfl, Nat.le_of_ble_eq_true rfl⟩ (kX8_isBelow l D cy ad X.2.2.2.1 x2 (16 : Int32)) hW hw hl.1 rfl rfl (Nat.le_of_ble_eq_true rfl) dX8_stand_14 (fun r_14 M_14 L_14 H_14 locs_14 hw hW => ?_)
    refine lv_if_ne (tgt := 23) hx hb0 dX8_stand_17 (by decide) (fun c_17 => ?_) (fun c_17 => ?_)
    · replace hw := hw.1 c_17
      refine lv_aload_n hx hb0 dX8_stand_23 rfl (lv_at hl 0 rfl) ?_
      refine z_getR (k2 := 14) X hW zC6 zR_0_0 (by decide) rfl zl_X8_10 dX8_stand_24 ?_
      refine z_getRN (k2 := 20) X hW zC5 (zRY_6 isY_14) (by decide) rfl zn_X8_84 dX8_stand_27 ?_
      refine lv_iload_n hx hb0 dX8_stand_30 rfl (lv_at hl 1 rfl) ?_
      obtain ⟨g_31, hw⟩ := hw
      refine z_iald X hW (zIY_6 isY_14) g_31 dX8_stand_31 ?_
      refine lv_topi (fun a_32 e_32 => ?_)
      replace hw := hw a_32 e_32
      refine lv_istore_n (lv' := [(3, .int a_32), (0, .ref (ad 0)), (1, .int x1), (2, .int x2)]) hx hb0 dX8_stand_32 rfl hl (by decide) rfl (fun ls hl => ?_)
      refine lv_aload_n hx hb0 dX8_stand_33 rfl (lv_at hl 1 rfl) ?_
      refine z_getR (k2 := 14) X hW zC6 zR_0_0 (by decide) rfl zl_X8_10 dX8_stand_34 ?_
      refine z_getRN (k2 := 20) X hW zC5 (zRY_6 isY_14) (by decide) rfl zn_X8_84 dX8_stand_37 ?_
      refine lv_iload_n hx hb0 dX8_stand_40 rfl (lv_at hl 2 rfl) ?_
      refine lv_iload_n hx hb0 dX8_stand_41 rfl (lv_at hl 3 rfl) ?_
      obtain ⟨g_42, hw⟩ := hw
      refine z_iast X hW (zIY_6 isY_14) g_42 dX8_stand_42 (fun M_42 H_42 locs_42 e_42 hW => ?_)
      replace hw := hw M_42 e_42
      refine lv_aload_n hx hb0 dX8_stand_43 rfl (lv_at hl 1 rfl) ?_
      refine z_getR (k2 := 14) X hW zC6 zR_0_0 (by decide) rfl zl_X8_10 dX8_stand_44 ?_
      refine lv_dup hx hb0 dX8_stand_47 rfl ?_
      refine z_getIN X hW zC5 (zFY_7 isY_14) (by decide) rfl zn_X8_88 dX8_stand_48 ?_
      refine lv_iconst (v := (1 : Int32)) hx hb0 dX8_stand_51 (by decide) ?_
      refine lv_iload_n hx hb0 dX8_stand_52 rfl (lv_at hl 2 rfl) ?_
      refine lv_ishl hx hb0 dX8_stand_53 ?_
      refine lv_iconst (v := (-1 : Int32)) hx hb0 dX8_stand_54 (by decide) ?_
      refine lv_ixor hx hb0 dX8_stand_55 ?_
      refine lv_iand hx hb0 dX8_stand_56 ?_
      refine z_putN (ty := .int) X hW zC5 (zFY_7 isY_14) (by decide) rfl zn_X8_88 rfl (by decide +kernel) rfl rfl dX8_stand_57 (fun M_57 H_57 locs_57 e_57 hW => ?_)
      replace hw := hw M_57 e_57
      refine lv_iload_n hx hb0 dX8_stand_60 rfl (lv_at hl 0 rfl) ?_
      exact hret _ ls _ _ a_32 M_57 L_14 dX8_stand_61 rfl hw hW
    · replace hw := hw.2 c_17
      refine lv_bipush (v := (-2 : Int32)) hx hb0 dX8_stand_20 (by decide) ?_
      exact hret _ ls _ _ (-2 : Int32) M_14 L_14 dX8_stand_22 rfl hw hW
  · replace hw := hw.2 c_6
    refine lv_iconst (v := (-1 : Int32)) hx hb0 dX8_stand_9 (by decide) ?_
    exact hret _ ls _ _ (-1 : Int32) M_3 L_3 dX8_stand_10 rfl hw hW
theorem kX8_stand (l : Launch) (D : va_G) (cy : Nat → ClassId) (ad : Nat → Nat) (hi : zInj ad) (x1 : Int32) (x2 : Int32) : zMi l yX8_stand (.code yX8_stand cX8_stand 4 (some .int) :: zG) rmX8_stand D cy ad [.ref (ad 0), .int x1, .int x2] (wpX8_stand x1 x2) :=
  zMi_of (by decide +kernel) (Nat.le_of_ble_eq_true rfl) hi (fun X M L post _ hret ls hl hw hW => mX8_stand X post hret M L x1 x2 _ _ ls hw hW hl)
abbrev rmX8_air : Room := { frames := 1, cells := 0, slots := 0, locals := 21 }
set_option maxRecDepth 20000 in
set_option maxHeartbeats 4000000 in
theorem mX8_air_18 {p : Program} {l : Launch} {e : Env} {s : State} {m : MethodId} {args : Array Value} {below : List Frame} {meth : Method} {c : Code} {cells slots : Nat} {Q : State → Prop} {D : va_G} {cy : Nat → ClassId} {ad : Nat → Nat} {A : Nat → Prop} (X : zCx p rmX8_air s m args c cells slots cX8_air 4 RX8 D cy ad A) (post : Int32 → Mm → Ml → Prop) (hret : zRi p l e rmX8_air s m args below meth c cells slots Q cX8_air D cy ad A .int post) : ∀ (M : Mm) (L : Ml) (H : Heap) (locs : List Loc) (ls : Array Slot), wpX8_air_18 post M L → zWd D cy ad A s H locs M L → lv_has ls 4 [] → W p l e rmX8_air s m args below meth c H locs cells slots Q (F0 m 18 ls []) := by
  have hx := X.1.1; have hb0 := X.1.2.1; have hts := X.1.2.2.2.2
  intro M L H locs ls hw hW hl
  unfold wpX8_air_18 at hw
  refine lv_bipush (v := (-2 : Int32)) hx hb0 dX8_air_18 (by decide) ?_
  exact hret _ ls _ _ (-2 : Int32) M L dX8_air_20 rfl hw hW
set_option maxRecDepth 20000 in
set_option maxHeartbeats 4000000 in
theorem mX8_air_66 {p : Program} {l : Launch} {e : Env} {s : State} {m : MethodId} {args : Array Value} {below : List Frame} {meth : Method} {c : Code} {cells slots : Nat} {Q : State → Prop} {D : va_G} {cy : Nat → ClassId} {ad : Nat → Nat} {A : Nat → Prop} (X : zCx p rmX8_air s m args c cells slots cX8_air 4 RX8 D cy ad A) (post : Int32 → Mm → Ml → Prop) (hret : zRi p l e rmX8_air s m args below meth c cells slots Q cX8_air D cy ad A .int post) : ∀ (M : Mm) (L : Ml) (v3 : Int32) (H : Heap) (locs : List Loc) (ls : Array Slot), wpX8_air_66 post M L v3 → zWd D cy ad A s H locs M L → lv_has ls 4 [(3, .int v3)] → W p l e rmX8_air s m args below meth c H locs cells slots Q (F0 m 66 ls []) := by
  have hx := X.1.1; have hb0 := X.1.2.1; have hts := X.1.2.2.2.2
  intro M L v3 H locs ls hw hW hl
  unfold wpX8_air_66 at hw
  refine lv_iload_n hx hb0 dX8_air_66 rfl (lv_at hl 0 rfl) ?_
  exact hret _ ls _ _ v3 M L dX8_air_67 rfl hw hW
set_option maxRecDepth 20000 in
set_option maxHeartbeats 4000000 in
theorem mX8_air_42 {p : Program} {l : Launch} {e : Env} {s : State} {m : MethodId} {args : Array Value} {below : List Frame} {meth : Method} {c : Code} {cells slots : Nat} {Q : State → Prop} {D : va_G} {cy : Nat → ClassId} {ad : Nat → Nat} {A : Nat → Prop} (X : zCx p rmX8_air s m args c cells slots cX8_air 4 RX8 D cy ad A) (post : Int32 → Mm → Ml → Prop) (hret : zRi p l e rmX8_air s m args below meth c cells slots Q cX8_air D cy ad A .int post) : ∀ (M : Mm) (L : Ml) (v1 : Int32) (v2 : Int32) (s0 : Int32) (H : Heap) (locs : List Loc) (ls : Array Slot), wpX8_air_42 post M L v1 v2 s0 → zWd D cy ad A s H locs M L → lv_has ls 4 [(0, .ref (ad 0)), (1, .int v1), (2, .int v2)] → W p l e rmX8_air s m args below meth c H locs cells slots Q (F0 m 42 ls [.int s0]) := by
  have hx := X.1.1; have hb0 := X.1.2.1; have hts := X.1.2.2.2.2
  intro M L v1 v2 s0 H locs ls hw hW hl
  unfold wpX8_air_42 at hw
  refine lv_istore_n (lv' := [(3, .int s0), (0, .ref (ad 0)), (1, .int v1), (2, .int v2)]) hx hb0 dX8_air_42 rfl hl (by decide) rfl (fun ls hl => ?_)
  refine lv_iload_n hx hb0 dX8_air_43 rfl (lv_at hl 2 rfl) ?_
  refine lv_if_ne (tgt := 58) hx hb0 dX8_air_44 (by decide) (fun c_44 => ?_) (fun c_44 => ?_)
  · replace hw := hw.1 c_44
    refine lv_aload_n hx hb0 dX8_air_58 rfl (lv_at hl 1 rfl) ?_
    refine z_getR (k2 := 14) X hW zC6 zR_0_0 (by decide) rfl zl_X8_10 dX8_air_59 ?_
    refine lv_iload_n hx hb0 dX8_air_62 rfl (lv_at hl 3 rfl) ?_
    refine z_putN (ty := .int) X hW zC5 (zFY_9 isY_14) (by decide) rfl zn_X8_94 rfl (by decide +kernel) rfl rfl dX8_air_63 (fun M_63 H_63 locs_63 e_63 hW => ?_)
    replace hw := hw M_63 e_63
    exact mX8_air_66 X post hret M_63 L s0 _ _ ls hw hW (lv_sub hl [0] rfl)
  · replace hw := hw.2 c_44
    refine lv_aload_n hx hb0 dX8_air_47 rfl (lv_at hl 1 rfl) ?_
    refine z_getR (k2 := 14) X hW zC6 zR_0_0 (by decide) rfl zl_X8_10 dX8_air_48 ?_
    refine lv_iload_n hx hb0 dX8_air_51 rfl (lv_at hl 3 rfl) ?_
    refine z_putN (ty := .int) X hW zC5 (zFY_8 isY_14) (by decide) rfl zn_X8_91 rfl (by decide +kernel) rfl rfl dX8_air_52 (fun M_52 H_52 locs_52 e_52 hW => ?_)
    replace hw := hw M_52 e_52
    refine lv_goto (tgt := 66) hx hb0 dX8_air_55 (by decide) ?_
    exact mX8_air_66 X post hret M_52 L s0 _ _ ls hw hW (lv_sub hl [0] rfl)
set_option maxRecDepth 20000 in
set_option maxHeartbeats 4000000 in
theorem mX8_air {p : Program} {l : Launch} {e : Env} {s : State} {m : MethodId} {args : Array Value} {below : List Frame} {meth : Method} {c : Code} {cells slots : Nat} {Q : State → Prop} {D : va_G} {cy : Nat → ClassId} {ad : Nat → Nat} {A : Nat → Prop} (X : zCx p rmX8_air s m args c cells slots cX8_air 4 RX8 D cy ad A) (post : Int32 → Mm → Ml → Prop) (hret : zRi p l e rmX8_air s m args below meth c cells slots Q cX8_air D cy ad A .int post) : ∀ (M : Mm) (L : Ml) (x1 : Int32) (x2 : Int32) (H : Heap) (locs : List Loc) (ls : Array Slot), wpX8_air x1 x2 M L post → zWd D cy ad A s H locs M L → lv_has ls 4 [(0, .ref (ad 0)), (1, .int x1), (2, .int x2)] → W p l e rmX8_air s m args below meth c H locs cells slots Q (F0 m 0 ls []) := by
  have hx := X.1.1; have hb0 := X.1.2.1; have hts := X.1.2.2.2.2
  intro M L x1 x2 H locs ls hw hW hl
  unfold wpX8_air at hw
  refine lv_iload_n hx hb0 dX8_air_0 rfl (lv_at hl 1 rfl) ?_
  refine lv_iconst (v := (2 : Int32)) hx hb0 dX8_air_1 (by decide) ?_
  refine z_Si X zc_X8_isBelow zt_X8_isBelow zl_X8_59 rfl ⟨rfl, rfl⟩ ⟨Nat.le_of_ble_eq_true rfl, Nat.le_of_ble_eq_true rfl⟩ (kX8_isBelow l D cy ad X.2.2.2.1 x1 (2 : Int32)) hW hw hl.1 rfl rfl (Nat.le_of_ble_eq_true rfl) dX8_air_2 (fun r_2 M_2 L_2 H_2 locs_2 hw hW => ?_)
  refine lv_if_eq (tgt := 18) hx hb0 dX8_air_5 (by decide) (fun c_5 => ?_) (fun c_5 => ?_)
  · replace hw := hw.1 c_5
    exact mX8_air_18 X post hret M_2 L_2 _ _ ls hw hW (lv_sub hl [] rfl)
  · replace hw := hw.2 c_5
    refine lv_iload_n hx hb0 dX8_air_8 rfl (lv_at hl 2 rfl) ?_
    refine lv_sipush (v := (256 : Int32)) hx hb0 dX8_air_9 (by decide) ?_
    refine z_Si X zc_X8_isBelow zt_X8_isBelow zl_X8_59 rfl ⟨rfl, rfl⟩ ⟨Nat.le_of_ble_eq_true rfl, Nat.le_of_ble_eq_true rfl⟩ (kX8_isBelow l D cy ad X.2.2.2.1 x2 (256 : Int32)) hW hw hl.1 rfl rfl (Nat.le_of_ble_eq_true rfl) dX8_air_12 (fun r_12 M_12 L_12 H_12 locs_12 hw hW => ?_)
    refine lv_if_ne (tgt := 21) hx hb0 dX8_air_15 (by decide) (fun c_15 => ?_) (fun c_15 => ?_)
    · replace hw := hw.1 c_15
      refine lv_iload_n hx hb0 dX8_air_21 rfl (lv_at hl 1 rfl) ?_
      refine lv_if_ne (tgt := 35) hx hb0 dX8_air_22 (by decide) (fun c_22 => ?_) (fun c_22 => ?_)
      · replace hw := hw.1 c_22
        refine lv_aload_n hx hb0 dX8_air_35 rfl (lv_at hl 0 rfl) ?_
        refine z_getR (k2 := 14) X hW zC6 zR_0_0 (by decide) rfl zl_X8_10 dX8_air_36 ?_
        refine z_getIN X hW zC5 (zFY_9 isY_14) (by decide) rfl zn_X8_94 dX8_air_39 ?_
        exact mX8_air_42 X post hret M_12 L_12 x1 x2 (M_12 14 9) _ _ ls hw hW (lv_sub hl [0, 1, 2] rfl)
      · replace hw := hw.2 c_22
        refine lv_aload_n hx hb0 dX8_air_25 rfl (lv_at hl 0 rfl) ?_
        refine z_getR (k2 := 14) X hW zC6 zR_0_0 (by decide) rfl zl_X8_10 dX8_air_26 ?_
        refine z_getIN X hW zC5 (zFY_8 isY_14) (by decide) rfl zn_X8_91 dX8_air_29 ?_
        refine lv_goto (tgt := 42) hx hb0 dX8_air_32 (by decide) ?_
        exact mX8_air_42 X post hret M_12 L_12 x1 x2 (M_12 14 8) _ _ ls hw hW (lv_sub hl [0, 1, 2] rfl)
    · replace hw := hw.2 c_15
      exact mX8_air_18 X post hret M_12 L_12 _ _ ls hw hW (lv_sub hl [] rfl)
theorem kX8_air (l : Launch) (D : va_G) (cy : Nat → ClassId) (ad : Nat → Nat) (hi : zInj ad) (x1 : Int32) (x2 : Int32) : zMi l yX8_air (.code yX8_air cX8_air 4 (some .int) :: zG) rmX8_air D cy ad [.ref (ad 0), .int x1, .int x2] (wpX8_air x1 x2) :=
  zMi_of (by decide +kernel) (Nat.le_of_ble_eq_true rfl) hi (fun X M L post _ hret ls hl hw hW => mX8_air X post hret M L x1 x2 _ _ ls hw hW hl)
abbrev rmX8_say : Room := { frames := 1, cells := 0, slots := 0, locals := 21 }
set_option maxRecDepth 20000 in
set_option maxHeartbeats 4000000 in
theorem mX8_say_12 {p : Program} {l : Launch} {e : Env} {s : State} {m : MethodId} {args : Array Value} {below : List Frame} {meth : Method} {c : Code} {cells slots : Nat} {Q : State → Prop} {D : va_G} {cy : Nat → ClassId} {ad : Nat → Nat} {A : Nat → Prop} (X : zCx p rmX8_say s m args c cells slots cX8_say 2 RX8 D cy ad A) (post : Int32 → Mm → Ml → Prop) (hret : zRi p l e rmX8_say s m args below meth c cells slots Q cX8_say D cy ad A .int post) : ∀ (M : Mm) (L : Ml) (H : Heap) (locs : List Loc) (ls : Array Slot), wpX8_say_12 post M L → zWd D cy ad A s H locs M L → lv_has ls 2 [] → W p l e rmX8_say s m args below meth c H locs cells slots Q (F0 m 12 ls []) := by
  have hx := X.1.1; have hb0 := X.1.2.1; have hts := X.1.2.2.2.2
  intro M L H locs ls hw hW hl
  unfold wpX8_say_12 at hw
  refine lv_bipush (v := (-2 : Int32)) hx hb0 dX8_say_12 (by decide) ?_
  exact hret _ ls _ _ (-2 : Int32) M L dX8_say_14 rfl hw hW
set_option maxRecDepth 20000 in
set_option maxHeartbeats 4000000 in
theorem mX8_say_38 {p : Program} {l : Launch} {e : Env} {s : State} {m : MethodId} {args : Array Value} {below : List Frame} {meth : Method} {c : Code} {cells slots : Nat} {Q : State → Prop} {D : va_G} {cy : Nat → ClassId} {ad : Nat → Nat} {A : Nat → Prop} (X : zCx p rmX8_say s m args c cells slots cX8_say 2 RX8 D cy ad A) (post : Int32 → Mm → Ml → Prop) (hret : zRi p l e rmX8_say s m args below meth c cells slots Q cX8_say D cy ad A .int post) : ∀ (M : Mm) (L : Ml) (s0 : Int32) (H : Heap) (locs : List Loc) (ls : Array Slot), wpX8_say_38 post M L s0 → zWd D cy ad A s H locs M L → lv_has ls 2 [] → W p l e rmX8_say s m args below meth c H locs cells slots Q (F0 m 38 ls [.int s0]) := by
  have hx := X.1.1; have hb0 := X.1.2.1; have hts := X.1.2.2.2.2
  intro M L s0 H locs ls hw hW hl
  unfold wpX8_say_38 at hw
  exact hret _ ls _ _ s0 M L dX8_say_38 rfl hw hW
set_option maxRecDepth 20000 in
set_option maxHeartbeats 4000000 in
theorem mX8_say {p : Program} {l : Launch} {e : Env} {s : State} {m : MethodId} {args : Array Value} {below : List Frame} {meth : Method} {c : Code} {cells slots : Nat} {Q : State → Prop} {D : va_G} {cy : Nat → ClassId} {ad : Nat → Nat} {A : Nat → Prop} (X : zCx p rmX8_say s m args c cells slots cX8_say 2 RX8 D cy ad A) (post : Int32 → Mm → Ml → Prop) (hret : zRi p l e rmX8_say s m args below meth c cells slots Q cX8_say D cy ad A .int post) : ∀ (M : Mm) (L : Ml) (x1 : Int32) (H : Heap) (locs : List Loc) (ls : Array Slot), wpX8_say x1 M L post → zWd D cy ad A s H locs M L → lv_has ls 2 [(0, .ref (ad 0)), (1, .int x1)] → W p l e rmX8_say s m args below meth c H locs cells slots Q (F0 m 0 ls []) := by
  have hx := X.1.1; have hb0 := X.1.2.1; have hts := X.1.2.2.2.2
  intro M L x1 H locs ls hw hW hl
  unfold wpX8_say at hw
  refine lv_iload_n hx hb0 dX8_say_0 rfl (lv_at hl 1 rfl) ?_
  refine lv_bipush (v := (33 : Int32)) hx hb0 dX8_say_1 (by decide) ?_
  refine lv_icmp_lt (tgt := 12) hx hb0 dX8_say_3 (by decide) (fun c_3 => ?_) (fun c_3 => ?_)
  · replace hw := hw.1 c_3
    exact mX8_say_12 X post hret M L _ _ ls hw hW (lv_sub hl [] rfl)
  · replace hw := hw.2 c_3
    refine lv_iload_n hx hb0 dX8_say_6 rfl (lv_at hl 1 rfl) ?_
    refine lv_bipush (v := (126 : Int32)) hx hb0 dX8_say_7 (by decide) ?_
    refine lv_icmp_le (tgt := 15) hx hb0 dX8_say_9 (by decide) (fun c_9 => ?_) (fun c_9 => ?_)
    · replace hw := hw.1 c_9
      refine lv_aload_n hx hb0 dX8_say_15 rfl (lv_at hl 0 rfl) ?_
      refine z_getR (k2 := 2) X hW zC6 zR_0_3 (by decide) rfl zl_X8_27 dX8_say_16 ?_
      refine lv_iload_n hx hb0 dX8_say_19 rfl (lv_at hl 1 rfl) ?_
      refine z_VNi X zO_2 zC3 zc_X5_add zs_X5_add zn_X8_97 rfl ⟨rfl, rfl⟩ ⟨Nat.le_of_ble_eq_true rfl, Nat.le_of_ble_eq_true rfl⟩ (kX5_add l D cy ad X.2.2.2.1 x1) hW hw hl.1 rfl rfl (Nat.le_of_ble_eq_true rfl) dX8_say_20 (fun r_20 M_20 L_20 H_20 locs_20 hw hW => ?_)
      refine lv_if_eq (tgt := 36) hx hb0 dX8_say_23 (by decide) (fun c_23 => ?_) (fun c_23 => ?_)
      · replace hw := hw.1 c_23
        refine lv_bipush (v := (-4 : Int32)) hx hb0 dX8_say_36 (by decide) ?_
        exact mX8_say_38 X post hret M_20 L_20 (-4 : Int32) _ _ ls hw hW (lv_sub hl [] rfl)
      · replace hw := hw.2 c_23
        refine lv_aload_n hx hb0 dX8_say_26 rfl (lv_at hl 0 rfl) ?_
        refine z_getR (k2 := 2) X hW zC6 zR_0_3 (by decide) rfl zl_X8_27 dX8_say_27 ?_
        refine z_getIN X hW zC3 zF_2_1 (by decide) rfl zn_X8_100 dX8_say_30 ?_
        refine lv_goto (tgt := 38) hx hb0 dX8_say_33 (by decide) ?_
        exact mX8_say_38 X post hret M_20 L_20 (M_20 2 1) _ _ ls hw hW (lv_sub hl [] rfl)
    · replace hw := hw.2 c_9
      exact mX8_say_12 X post hret M L _ _ ls hw hW (lv_sub hl [] rfl)
theorem kX8_say (l : Launch) (D : va_G) (cy : Nat → ClassId) (ad : Nat → Nat) (hi : zInj ad) (x1 : Int32) : zMi l yX8_say (.code yX8_say cX8_say 2 (some .int) :: zG) rmX8_say D cy ad [.ref (ad 0), .int x1] (wpX8_say x1) :=
  zMi_of (by decide +kernel) (Nat.le_of_ble_eq_true rfl) hi (fun X M L post _ hret ls hl hw hW => mX8_say X post hret M L x1 _ _ ls hw hW hl)
abbrev rmX8_wipe : Room := { frames := 0, cells := 0, slots := 0, locals := 0 }
set_option maxRecDepth 20000 in
set_option maxHeartbeats 4000000 in
theorem mX8_wipe {p : Program} {l : Launch} {e : Env} {s : State} {m : MethodId} {args : Array Value} {below : List Frame} {meth : Method} {c : Code} {cells slots : Nat} {Q : State → Prop} {D : va_G} {cy : Nat → ClassId} {ad : Nat → Nat} {A : Nat → Prop} (X : zCx p rmX8_wipe s m args c cells slots cX8_wipe 2 RX8 D cy ad A) (post : Int32 → Mm → Ml → Prop) (hret : zRi p l e rmX8_wipe s m args below meth c cells slots Q cX8_wipe D cy ad A .int post) : ∀ (M : Mm) (L : Ml) (H : Heap) (locs : List Loc) (ls : Array Slot), wpX8_wipe M L post → zWd D cy ad A s H locs M L → lv_has ls 2 [(0, .ref (ad 0))] → W p l e rmX8_wipe s m args below meth c H locs cells slots Q (F0 m 0 ls []) := by
  have hx := X.1.1; have hb0 := X.1.2.1; have hts := X.1.2.2.2.2
  intro M L H locs ls hw hW hl
  unfold wpX8_wipe at hw
  refine lv_aload_n hx hb0 dX8_wipe_0 rfl (lv_at hl 0 rfl) ?_
  refine z_getR (k2 := 2) X hW zC6 zR_0_3 (by decide) rfl zl_X8_27 dX8_wipe_1 ?_
  refine z_getIN X hW zC3 zF_2_1 (by decide) rfl zn_X8_100 dX8_wipe_4 ?_
  refine lv_topi (fun a_7 e_7 => ?_)
  replace hw := hw a_7 e_7
  refine lv_istore_n (lv' := [(1, .int a_7), (0, .ref (ad 0))]) hx hb0 dX8_wipe_7 rfl hl (by decide) rfl (fun ls hl => ?_)
  refine lv_aload_n hx hb0 dX8_wipe_8 rfl (lv_at hl 1 rfl) ?_
  refine z_getR (k2 := 2) X hW zC6 zR_0_3 (by decide) rfl zl_X8_27 dX8_wipe_9 ?_
  refine lv_iconst (v := (0 : Int32)) hx hb0 dX8_wipe_12 (by decide) ?_
  refine z_putN (ty := .int) X hW zC3 zF_2_1 (by decide) rfl zn_X8_100 rfl (by decide +kernel) rfl rfl dX8_wipe_13 (fun M_13 H_13 locs_13 e_13 hW => ?_)
  replace hw := hw M_13 e_13
  refine lv_iload_n hx hb0 dX8_wipe_16 rfl (lv_at hl 0 rfl) ?_
  exact hret _ ls _ _ a_7 M_13 L dX8_wipe_17 rfl hw hW
theorem kX8_wipe (l : Launch) (D : va_G) (cy : Nat → ClassId) (ad : Nat → Nat) (hi : zInj ad) : zMi l yX8_wipe (.code yX8_wipe cX8_wipe 2 (some .int) :: zG) rmX8_wipe D cy ad [.ref (ad 0)] (wpX8_wipe) :=
  zMi_of (by decide +kernel) (Nat.le_of_ble_eq_true rfl) hi (fun X M L post _ hret ls hl hw hW => mX8_wipe X post hret M L _ _ ls hw hW hl)
abbrev rmX8_fault : Room := { frames := 2, cells := 0, slots := 0, locals := 43 }
set_option maxRecDepth 20000 in
set_option maxHeartbeats 4000000 in
theorem mX8_fault {p : Program} {l : Launch} {e : Env} {s : State} {m : MethodId} {args : Array Value} {below : List Frame} {meth : Method} {c : Code} {cells slots : Nat} {Q : State → Prop} {D : va_G} {cy : Nat → ClassId} {ad : Nat → Nat} {A : Nat → Prop} (X : zCx p rmX8_fault s m args c cells slots cX8_fault 1 RX8 D cy ad A) (post : Int32 → Mm → Ml → Prop) (hret : zRi p l e rmX8_fault s m args below meth c cells slots Q cX8_fault D cy ad A .int post) : ∀ (M : Mm) (L : Ml) (H : Heap) (locs : List Loc) (ls : Array Slot), wpX8_fault M L post → zWd D cy ad A s H locs M L → lv_has ls 1 [(0, .ref (ad 0))] → W p l e rmX8_fault s m args below meth c H locs cells slots Q (F0 m 0 ls []) := by
  have hx := X.1.1; have hb0 := X.1.2.1; have hts := X.1.2.2.2.2
  intro M L H locs ls hw hW hl
  unfold wpX8_fault at hw
  refine lv_aload_n hx hb0 dX8_fault_0 rfl (lv_at hl 0 rfl) ?_
  refine z_getR (k2 := 2) X hW zC6 zR_0_3 (by decide) rfl zl_X8_27 dX8_fault_1 ?_
  refine z_VNi X zO_2 zC3 zc_X5_readActs zs_X5_readActs zn_X8_103 rfl ⟨rfl, rfl⟩ ⟨Nat.le_of_ble_eq_true rfl, Nat.le_of_ble_eq_true rfl⟩ (kX5_readActs l D cy ad X.2.2.2.1) hW hw hl.1 rfl rfl (Nat.le_of_ble_eq_true rfl) dX8_fault_4 (fun r_4 M_4 L_4 H_4 locs_4 hw hW => ?_)
  exact hret _ ls _ _ r_4 M_4 L_4 dX8_fault_7 rfl hw hW
theorem kX8_fault (l : Launch) (D : va_G) (cy : Nat → ClassId) (ad : Nat → Nat) (hi : zInj ad) : zMi l yX8_fault (.code yX8_fault cX8_fault 1 (some .int) :: zG) rmX8_fault D cy ad [.ref (ad 0)] (wpX8_fault) :=
  zMi_of (by decide +kernel) (Nat.le_of_ble_eq_true rfl) hi (fun X M L post _ hret ls hl hw hW => mX8_fault X post hret M L _ _ ls hw hW hl)
abbrev rmX8_refusalOfDays : Room := { frames := 5, cells := 0, slots := 0, locals := 147 }
set_option maxRecDepth 20000 in
set_option maxHeartbeats 4000000 in
theorem mX8_refusalOfDays_48 {p : Program} {l : Launch} {e : Env} {s : State} {m : MethodId} {args : Array Value} {below : List Frame} {meth : Method} {c : Code} {cells slots : Nat} {Q : State → Prop} {D : va_G} {cy : Nat → ClassId} {ad : Nat → Nat} {A : Nat → Prop} (X : zCx p rmX8_refusalOfDays s m args c cells slots cX8_refusalOfDays 1 RX8 D cy ad A) (post : Int32 → Mm → Ml → Prop) (hret : zRi p l e rmX8_refusalOfDays s m args below meth c cells slots Q cX8_refusalOfDays D cy ad A .int post) : ∀ (M : Mm) (L : Ml) (s0 : Int32) (H : Heap) (locs : List Loc) (ls : Array Slot), wpX8_refusalOfDays_48 post M L s0 → zWd D cy ad A s H locs M L → lv_has ls 1 [] → W p l e rmX8_refusalOfDays s m args below meth c H locs cells slots Q (F0 m 48 ls [.int s0]) := by
  have hx := X.1.1; have hb0 := X.1.2.1; have hts := X.1.2.2.2.2
  intro M L s0 H locs ls hw hW hl
  unfold wpX8_refusalOfDays_48 at hw
  exact hret _ ls _ _ s0 M L dX8_refusalOfDays_48 rfl hw hW
set_option maxRecDepth 20000 in
set_option maxHeartbeats 4000000 in
theorem mX8_refusalOfDays {p : Program} {l : Launch} {e : Env} {s : State} {m : MethodId} {args : Array Value} {below : List Frame} {meth : Method} {c : Code} {cells slots : Nat} {Q : State → Prop} {D : va_G} {cy : Nat → ClassId} {ad : Nat → Nat} {A : Nat → Prop} (X : zCx p rmX8_refusalOfDays s m args c cells slots cX8_refusalOfDays 1 RX8 D cy ad A) (post : Int32 → Mm → Ml → Prop) (hret : zRi p l e rmX8_refusalOfDays s m args below meth c cells slots Q cX8_refusalOfDays D cy ad A .int post) : ∀ (M : Mm) (L : Ml) (H : Heap) (locs : List Loc) (ls : Array Slot), wpX8_refusalOfDays M L post → zWd D cy ad A s H locs M L → lv_has ls 1 [(0, .ref (ad 0))] → W p l e rmX8_refusalOfDays s m args below meth c H locs cells slots Q (F0 m 0 ls []) := by
  have hx := X.1.1; have hb0 := X.1.2.1; have hts := X.1.2.2.2.2
  intro M L H locs ls hw hW hl
  unfold wpX8_refusalOfDays at hw
  refine lv_aload_n hx hb0 dX8_refusalOfDays_0 rfl (lv_at hl 0 rfl) ?_
  refine z_getR (k2 := 2) X hW zC6 zR_0_3 (by decide) rfl zl_X8_27 dX8_refusalOfDays_1 ?_
  refine z_VNi X zO_2 zC3 zc_X5_readActs zs_X5_readActs zn_X8_103 rfl ⟨rfl, rfl⟩ ⟨Nat.le_of_ble_eq_true rfl, Nat.le_of_ble_eq_true rfl⟩ (kX5_readActs l D cy ad X.2.2.2.1) hW hw hl.1 rfl rfl (Nat.le_of_ble_eq_true rfl) dX8_refusalOfDays_4 (fun r_4 M_4 L_4 H_4 locs_4 hw hW => ?_)
  refine lv_bipush (v := (-6 : Int32)) hx hb0 dX8_refusalOfDays_7 (by decide) ?_
  refine lv_icmp_eq (tgt := 15) hx hb0 dX8_refusalOfDays_9 (by decide) (fun c_9 => ?_) (fun c_9 => ?_)
  · replace hw := hw.1 c_9
    refine lv_aload_n hx hb0 dX8_refusalOfDays_15 rfl (lv_at hl 0 rfl) ?_
    refine z_getR (k2 := 6) X hW zC6 zR_0_4 (by decide) rfl zl_X8_34 dX8_refusalOfDays_16 ?_
    refine lv_aload_n hx hb0 dX8_refusalOfDays_19 rfl (lv_at hl 0 rfl) ?_
    refine z_getR (k2 := 14) X hW zC6 zR_0_0 (by decide) rfl zl_X8_10 dX8_refusalOfDays_20 ?_
    refine lv_aload_n hx hb0 dX8_refusalOfDays_23 rfl (lv_at hl 0 rfl) ?_
    refine z_getR (k2 := 2) X hW zC6 zR_0_3 (by decide) rfl zl_X8_27 dX8_refusalOfDays_24 ?_
    refine z_VNv X zO_6 zC1 zc_X2_live zs_X2_live zn_X8_236 rfl ⟨rfl, rfl⟩ ⟨Nat.le_of_ble_eq_true rfl, Nat.le_of_ble_eq_true rfl⟩ (kX2_live l D cy ad X.2.2.2.1 isY_14) hW hw hl.1 rfl rfl (Nat.le_of_ble_eq_true rfl) dX8_refusalOfDays_27 (fun M_27 L_27 H_27 locs_27 hw hW => ?_)
    refine lv_aload_n hx hb0 dX8_refusalOfDays_30 rfl (lv_at hl 0 rfl) ?_
    refine z_getR (k2 := 6) X hW zC6 zR_0_4 (by decide) rfl zl_X8_34 dX8_refusalOfDays_31 ?_
    refine z_getIN X hW zC1 zF_6_1 (by decide) rfl zn_X8_110 dX8_refusalOfDays_34 ?_
    refine lv_bipush (v := (-6 : Int32)) hx hb0 dX8_refusalOfDays_37 (by decide) ?_
    refine lv_icmp_ne (tgt := 46) hx hb0 dX8_refusalOfDays_39 (by decide) (fun c_39 => ?_) (fun c_39 => ?_)
    · replace hw := hw.1 c_39
      refine lv_bipush (v := (-3 : Int32)) hx hb0 dX8_refusalOfDays_46 (by decide) ?_
      exact mX8_refusalOfDays_48 X post hret M_27 L_27 (-3 : Int32) _ _ ls hw hW (lv_sub hl [] rfl)
    · replace hw := hw.2 c_39
      refine lv_iconst (v := (0 : Int32)) hx hb0 dX8_refusalOfDays_42 (by decide) ?_
      refine lv_goto (tgt := 48) hx hb0 dX8_refusalOfDays_43 (by decide) ?_
      exact mX8_refusalOfDays_48 X post hret M_27 L_27 (0 : Int32) _ _ ls hw hW (lv_sub hl [] rfl)
  · replace hw := hw.2 c_9
    refine lv_bipush (v := (-5 : Int32)) hx hb0 dX8_refusalOfDays_12 (by decide) ?_
    exact hret _ ls _ _ (-5 : Int32) M_4 L_4 dX8_refusalOfDays_14 rfl hw hW
theorem kX8_refusalOfDays (l : Launch) (D : va_G) (cy : Nat → ClassId) (ad : Nat → Nat) (hi : zInj ad) : zMi l yX8_refusalOfDays (.code yX8_refusalOfDays cX8_refusalOfDays 1 (some .int) :: zG) rmX8_refusalOfDays D cy ad [.ref (ad 0)] (wpX8_refusalOfDays) :=
  zMi_of (by decide +kernel) (Nat.le_of_ble_eq_true rfl) hi (fun X M L post _ hret ls hl hw hW => mX8_refusalOfDays X post hret M L _ _ ls hw hW hl)
abbrev rmX8_judge : Room := { frames := 6, cells := 0, slots := 0, locals := 167 }
set_option maxRecDepth 20000 in
set_option maxHeartbeats 4000000 in
theorem mX8_judge_84 {p : Program} {l : Launch} {e : Env} {s : State} {m : MethodId} {args : Array Value} {below : List Frame} {meth : Method} {c : Code} {cells slots : Nat} {Q : State → Prop} {D : va_G} {cy : Nat → ClassId} {ad : Nat → Nat} {A : Nat → Prop} (X : zCx p rmX8_judge s m args c cells slots cX8_judge 3 RX8 D cy ad A) (post : Int32 → Mm → Ml → Prop) (hret : zRi p l e rmX8_judge s m args below meth c cells slots Q cX8_judge D cy ad A .int post) : ∀ (M : Mm) (L : Ml) (s0 : Int32) (H : Heap) (locs : List Loc) (ls : Array Slot), wpX8_judge_84 post M L s0 → zWd D cy ad A s H locs M L → lv_has ls 3 [] → W p l e rmX8_judge s m args below meth c H locs cells slots Q (F0 m 84 ls [.int s0]) := by
  have hx := X.1.1; have hb0 := X.1.2.1; have hts := X.1.2.2.2.2
  intro M L s0 H locs ls hw hW hl
  unfold wpX8_judge_84 at hw
  exact hret _ ls _ _ s0 M L dX8_judge_84 rfl hw hW
set_option maxRecDepth 20000 in
set_option maxHeartbeats 4000000 in
theorem mX8_judge {p : Program} {l : Launch} {e : Env} {s : State} {m : MethodId} {args : Array Value} {below : List Frame} {meth : Method} {c : Code} {cells slots : Nat} {Q : State → Prop} {D : va_G} {cy : Nat → ClassId} {ad : Nat → Nat} {A : Nat → Prop} (X : zCx p rmX8_judge s m args c cells slots cX8_judge 3 RX8 D cy ad A) (post : Int32 → Mm → Ml → Prop) (hret : zRi p l e rmX8_judge s m args below meth c cells slots Q cX8_judge D cy ad A .int post) : ∀ (M : Mm) (L : Ml) (x1 : Int32) (H : Heap) (locs : List Loc) (ls : Array Slot), wpX8_judge x1 M L post → zWd D cy ad A s H locs M L → lv_has ls 3 [(0, .ref (ad 0)), (1, .int x1)] → W p l e rmX8_judge s m args below meth c H locs cells slots Q (F0 m 0 ls []) := by
  have hx := X.1.1; have hb0 := X.1.2.1; have hts := X.1.2.2.2.2
  intro M L x1 H locs ls hw hW hl
  unfold wpX8_judge at hw
  refine lv_iload_n hx hb0 dX8_judge_0 rfl (lv_at hl 1 rfl) ?_
  refine lv_iconst (v := (3 : Int32)) hx hb0 dX8_judge_1 (by decide) ?_
  refine z_Si X zc_X8_isBelow zt_X8_isBelow zl_X8_59 rfl ⟨rfl, rfl⟩ ⟨Nat.le_of_ble_eq_true rfl, Nat.le_of_ble_eq_true rfl⟩ (kX8_isBelow l D cy ad X.2.2.2.1 x1 (3 : Int32)) hW hw hl.1 rfl rfl (Nat.le_of_ble_eq_true rfl) dX8_judge_2 (fun r_2 M_2 L_2 H_2 locs_2 hw hW => ?_)
  refine lv_if_ne (tgt := 11) hx hb0 dX8_judge_5 (by decide) (fun c_5 => ?_) (fun c_5 => ?_)
  · replace hw := hw.1 c_5
    refine lv_aload_n hx hb0 dX8_judge_11 rfl (lv_at hl 0 rfl) ?_
    refine z_Vi X zO_0 zC6 zc_X8_refusalOfDays zs_X8_refusalOfDays zl_X8_107 rfl ⟨rfl, rfl⟩ ⟨Nat.le_of_ble_eq_true rfl, Nat.le_of_ble_eq_true rfl⟩ (kX8_refusalOfDays l D cy ad X.2.2.2.1) hW hw hl.1 rfl rfl (Nat.le_of_ble_eq_true rfl) dX8_judge_12 (fun r_12 M_12 L_12 H_12 locs_12 hw hW => ?_)
    refine lv_istore_n (lv' := [(2, .int r_12), (0, .ref (ad 0)), (1, .int x1)]) hx hb0 dX8_judge_15 rfl hl (by decide) rfl (fun ls hl => ?_)
    refine lv_iload_n hx hb0 dX8_judge_16 rfl (lv_at hl 0 rfl) ?_
    refine lv_bipush (v := (-5 : Int32)) hx hb0 dX8_judge_17 (by decide) ?_
    refine lv_icmp_ne (tgt := 25) hx hb0 dX8_judge_19 (by decide) (fun c_19 => ?_) (fun c_19 => ?_)
    · replace hw := hw.1 c_19
      refine lv_iload_n hx hb0 dX8_judge_25 rfl (lv_at hl 2 rfl) ?_
      by_cases c_26_0 : x1 = (0 : Int32)
      · replace hw := hw.1 c_26_0
        refine lv_lookup (tgt := 52) (off := 26) hx hb0 dX8_judge_26 rfl (by rw [c_26_0]; rfl) (by decide) ?_
        refine lv_aload_n hx hb0 dX8_judge_52 rfl (lv_at hl 1 rfl) ?_
        refine z_getR (k2 := 6) X hW zC6 zR_0_4 (by decide) rfl zl_X8_34 dX8_judge_53 ?_
        refine z_getIN X hW zC1 zF_6_1 (by decide) rfl zn_X8_110 dX8_judge_56 ?_
        exact hret _ ls _ _ (M_12 6 1) M_12 L_12 dX8_judge_59 rfl hw hW
      · replace hw := hw.2 c_26_0
        by_cases c_26_1 : x1 = (1 : Int32)
        · replace hw := hw.1 c_26_1
          refine lv_lookup (tgt := 60) (off := 34) hx hb0 dX8_judge_26 rfl (by rw [c_26_1]; rfl) (by decide) ?_
          refine lv_aload_n hx hb0 dX8_judge_60 rfl (lv_at hl 1 rfl) ?_
          refine z_getR (k2 := 6) X hW zC6 zR_0_4 (by decide) rfl zl_X8_34 dX8_judge_61 ?_
          refine z_getIN X hW zC1 zF_6_2 (by decide) rfl zn_X8_113 dX8_judge_64 ?_
          exact hret _ ls _ _ (M_12 6 2) M_12 L_12 dX8_judge_67 rfl hw hW
        · replace hw := hw.2 c_26_1
          refine lv_lookup (tgt := 68) (off := 42) hx hb0 dX8_judge_26 rfl (by show Op.lookupswitch.offset [(0, 26), (1, 34)] 42 x1.toInt = _; rw [lv_osw c_26_0 (by decide), lv_osw c_26_1 (by decide)]; rfl) (by decide) ?_
          refine lv_iload_n hx hb0 dX8_judge_68 rfl (lv_at hl 0 rfl) ?_
          refine lv_if_ne (tgt := 82) hx hb0 dX8_judge_69 (by decide) (fun c_69 => ?_) (fun c_69 => ?_)
          · replace hw := hw.1 c_69
            refine lv_bipush (v := (-3 : Int32)) hx hb0 dX8_judge_82 (by decide) ?_
            exact mX8_judge_84 X post hret M_12 L_12 (-3 : Int32) _ _ ls hw hW (lv_sub hl [] rfl)
          · replace hw := hw.2 c_69
            refine lv_aload_n hx hb0 dX8_judge_72 rfl (lv_at hl 1 rfl) ?_
            refine z_getR (k2 := 6) X hW zC6 zR_0_4 (by decide) rfl zl_X8_34 dX8_judge_73 ?_
            refine z_VNi X zO_6 zC1 zc_X2_cameDown zs_X2_cameDown zn_X8_116 rfl ⟨rfl, rfl⟩ ⟨Nat.le_of_ble_eq_true rfl, Nat.le_of_ble_eq_true rfl⟩ (kX2_cameDown l D cy ad X.2.2.2.1) hW hw hl.1 rfl rfl (Nat.le_of_ble_eq_true rfl) dX8_judge_76 (fun r_76 M_76 L_76 H_76 locs_76 hw hW => ?_)
            refine lv_goto (tgt := 84) hx hb0 dX8_judge_79 (by decide) ?_
            exact mX8_judge_84 X post hret M_76 L_76 r_76 _ _ ls hw hW (lv_sub hl [] rfl)
    · replace hw := hw.2 c_19
      refine lv_bipush (v := (-5 : Int32)) hx hb0 dX8_judge_22 (by decide) ?_
      exact hret _ ls _ _ (-5 : Int32) M_12 L_12 dX8_judge_24 rfl hw hW
  · replace hw := hw.2 c_5
    refine lv_bipush (v := (-2 : Int32)) hx hb0 dX8_judge_8 (by decide) ?_
    exact hret _ ls _ _ (-2 : Int32) M_2 L_2 dX8_judge_10 rfl hw hW
theorem kX8_judge (l : Launch) (D : va_G) (cy : Nat → ClassId) (ad : Nat → Nat) (hi : zInj ad) (x1 : Int32) : zMi l yX8_judge (.code yX8_judge cX8_judge 3 (some .int) :: zG) rmX8_judge D cy ad [.ref (ad 0), .int x1] (wpX8_judge x1) :=
  zMi_of (by decide +kernel) (Nat.le_of_ble_eq_true rfl) hi (fun X M L post _ hret ls hl hw hW => mX8_judge X post hret M L x1 _ _ ls hw hW hl)
abbrev rmX8_behind : Room := { frames := 6, cells := 0, slots := 0, locals := 167 }
set_option maxRecDepth 20000 in
set_option maxHeartbeats 4000000 in
theorem mX8_behind {p : Program} {l : Launch} {e : Env} {s : State} {m : MethodId} {args : Array Value} {below : List Frame} {meth : Method} {c : Code} {cells slots : Nat} {Q : State → Prop} {D : va_G} {cy : Nat → ClassId} {ad : Nat → Nat} {A : Nat → Prop} (X : zCx p rmX8_behind s m args c cells slots cX8_behind 4 RX8 D cy ad A) (post : Int32 → Mm → Ml → Prop) (hret : zRi p l e rmX8_behind s m args below meth c cells slots Q cX8_behind D cy ad A .int post) : ∀ (M : Mm) (L : Ml) (x1 : Int32) (x2 : Int32) (H : Heap) (locs : List Loc) (ls : Array Slot), wpX8_behind x1 x2 M L post → zWd D cy ad A s H locs M L → lv_has ls 4 [(0, .ref (ad 0)), (1, .int x1), (2, .int x2)] → W p l e rmX8_behind s m args below meth c H locs cells slots Q (F0 m 0 ls []) := by
  have hx := X.1.1; have hb0 := X.1.2.1; have hts := X.1.2.2.2.2
  intro M L x1 x2 H locs ls hw hW hl
  unfold wpX8_behind at hw
  refine lv_aload_n hx hb0 dX8_behind_0 rfl (lv_at hl 0 rfl) ?_
  refine z_getR (k2 := 14) X hW zC6 zR_0_0 (by decide) rfl zl_X8_10 dX8_behind_1 ?_
  refine lv_iload_n hx hb0 dX8_behind_4 rfl (lv_at hl 1 rfl) ?_
  refine z_VNi X (zOY isY_14) zC5 zc_X7_has zs_X7_has zn_X8_76 rfl ⟨rfl, rfl⟩ ⟨Nat.le_of_ble_eq_true rfl, Nat.le_of_ble_eq_true rfl⟩ (kX7_has l D cy ad X.2.2.2.1 isY_14 x1) hW hw hl.1 rfl rfl (Nat.le_of_ble_eq_true rfl) dX8_behind_5 (fun r_5 M_5 L_5 H_5 locs_5 hw hW => ?_)
  refine lv_if_ne (tgt := 13) hx hb0 dX8_behind_8 (by decide) (fun c_8 => ?_) (fun c_8 => ?_)
  · replace hw := hw.1 c_8
    refine lv_iload_n hx hb0 dX8_behind_13 rfl (lv_at hl 2 rfl) ?_
    refine lv_iconst (v := (4 : Int32)) hx hb0 dX8_behind_14 (by decide) ?_
    refine z_Si X zc_X8_isBelow zt_X8_isBelow zl_X8_59 rfl ⟨rfl, rfl⟩ ⟨Nat.le_of_ble_eq_true rfl, Nat.le_of_ble_eq_true rfl⟩ (kX8_isBelow l D cy ad X.2.2.2.1 x2 (4 : Int32)) hW hw hl.1 rfl rfl (Nat.le_of_ble_eq_true rfl) dX8_behind_15 (fun r_15 M_15 L_15 H_15 locs_15 hw hW => ?_)
    refine lv_if_ne (tgt := 24) hx hb0 dX8_behind_18 (by decide) (fun c_18 => ?_) (fun c_18 => ?_)
    · replace hw := hw.1 c_18
      refine lv_aload_n hx hb0 dX8_behind_24 rfl (lv_at hl 0 rfl) ?_
      refine z_Vi X zO_0 zC6 zc_X8_refusalOfDays zs_X8_refusalOfDays zl_X8_107 rfl ⟨rfl, rfl⟩ ⟨Nat.le_of_ble_eq_true rfl, Nat.le_of_ble_eq_true rfl⟩ (kX8_refusalOfDays l D cy ad X.2.2.2.1) hW hw hl.1 rfl rfl (Nat.le_of_ble_eq_true rfl) dX8_behind_25 (fun r_25 M_25 L_25 H_25 locs_25 hw hW => ?_)
      refine lv_istore_n (lv' := [(3, .int r_25), (0, .ref (ad 0)), (1, .int x1), (2, .int x2)]) hx hb0 dX8_behind_28 rfl hl (by decide) rfl (fun ls hl => ?_)
      refine lv_iload_n hx hb0 dX8_behind_29 rfl (lv_at hl 0 rfl) ?_
      refine lv_if_eq (tgt := 35) hx hb0 dX8_behind_30 (by decide) (fun c_30 => ?_) (fun c_30 => ?_)
      · replace hw := hw.1 c_30
        refine lv_iload_n hx hb0 dX8_behind_35 rfl (lv_at hl 3 rfl) ?_
        by_cases c_36_0 : x2 = (0 : Int32)
        · replace hw := hw.1 c_36_0
          refine lv_tableIn (tgt := 64) (off := 28) hx hb0 dX8_behind_36 (by rw [c_36_0]; decide) (by rw [c_36_0]; decide) (by rw [c_36_0]; rfl) (by decide) ?_
          refine lv_aload_n hx hb0 dX8_behind_64 rfl (lv_at hl 1 rfl) ?_
          refine z_getR (k2 := 6) X hW zC6 zR_0_4 (by decide) rfl zl_X8_34 dX8_behind_65 ?_
          refine z_getRN (k2 := 35) X hW zC1 zR_6_0 (by decide) rfl zn_X8_119 dX8_behind_68 ?_
          refine z_getRN (k2 := 36) X hW zC5 (zRY_1 isY_35) (by decide) rfl zn_X8_122 dX8_behind_71 ?_
          refine lv_iload_n hx hb0 dX8_behind_74 rfl (lv_at hl 2 rfl) ?_
          obtain ⟨g_75, hw⟩ := hw
          refine z_iald X hW (zIY_1 isY_35) g_75 dX8_behind_75 ?_
          exact hret _ ls _ _ (M_25 36 x1.toNatClampNeg) M_25 L_25 dX8_behind_76 rfl hw hW
        · replace hw := hw.2 c_36_0
          by_cases c_36_1 : x2 = (1 : Int32)
          · replace hw := hw.1 c_36_1
            refine lv_tableIn (tgt := 77) (off := 41) hx hb0 dX8_behind_36 (by rw [c_36_1]; decide) (by rw [c_36_1]; decide) (by rw [c_36_1]; rfl) (by decide) ?_
            refine lv_aload_n hx hb0 dX8_behind_77 rfl (lv_at hl 1 rfl) ?_
            refine z_getR (k2 := 6) X hW zC6 zR_0_4 (by decide) rfl zl_X8_34 dX8_behind_78 ?_
            refine z_getRN (k2 := 35) X hW zC1 zR_6_0 (by decide) rfl zn_X8_119 dX8_behind_81 ?_
            refine z_getRN (k2 := 37) X hW zC5 (zRY_2 isY_35) (by decide) rfl zn_X8_125 dX8_behind_84 ?_
            refine lv_iload_n hx hb0 dX8_behind_87 rfl (lv_at hl 2 rfl) ?_
            obtain ⟨g_88, hw⟩ := hw
            refine z_iald X hW (zIY_2 isY_35) g_88 dX8_behind_88 ?_
            exact hret _ ls _ _ (M_25 37 x1.toNatClampNeg) M_25 L_25 dX8_behind_89 rfl hw hW
          · replace hw := hw.2 c_36_1
            by_cases c_36_2 : x2 = (2 : Int32)
            · replace hw := hw.1 c_36_2
              refine lv_tableIn (tgt := 90) (off := 54) hx hb0 dX8_behind_36 (by rw [c_36_2]; decide) (by rw [c_36_2]; decide) (by rw [c_36_2]; rfl) (by decide) ?_
              refine lv_aload_n hx hb0 dX8_behind_90 rfl (lv_at hl 1 rfl) ?_
              refine z_getR (k2 := 6) X hW zC6 zR_0_4 (by decide) rfl zl_X8_34 dX8_behind_91 ?_
              refine z_getRN (k2 := 35) X hW zC1 zR_6_0 (by decide) rfl zn_X8_119 dX8_behind_94 ?_
              refine z_getRN (k2 := 38) X hW zC5 (zRY_3 isY_35) (by decide) rfl zn_X8_128 dX8_behind_97 ?_
              refine lv_iload_n hx hb0 dX8_behind_100 rfl (lv_at hl 2 rfl) ?_
              obtain ⟨g_101, hw⟩ := hw
              refine z_iald X hW (zIY_3 isY_35) g_101 dX8_behind_101 ?_
              exact hret _ ls _ _ (M_25 38 x1.toNatClampNeg) M_25 L_25 dX8_behind_102 rfl hw hW
            · replace hw := hw.2 c_36_2
              refine lv_tableOut (tgt := 103) hx hb0 dX8_behind_36 (by have q0 : ¬ x2.toInt = 0 := lv_neT c_36_0 (by decide); have q1 : ¬ x2.toInt = 1 := lv_neT c_36_1 (by decide); have q2 : ¬ x2.toInt = 2 := lv_neT c_36_2 (by decide); omega) (by decide) ?_
              refine lv_aload_n hx hb0 dX8_behind_103 rfl (lv_at hl 1 rfl) ?_
              refine z_getR (k2 := 6) X hW zC6 zR_0_4 (by decide) rfl zl_X8_34 dX8_behind_104 ?_
              refine z_getRN (k2 := 35) X hW zC1 zR_6_0 (by decide) rfl zn_X8_119 dX8_behind_107 ?_
              refine z_getRN (k2 := 40) X hW zC5 (zRY_5 isY_35) (by decide) rfl zn_X8_131 dX8_behind_110 ?_
              refine lv_iload_n hx hb0 dX8_behind_113 rfl (lv_at hl 2 rfl) ?_
              obtain ⟨g_114, hw⟩ := hw
              refine z_iald X hW (zIY_5 isY_35) g_114 dX8_behind_114 ?_
              exact hret _ ls _ _ (M_25 40 x1.toNatClampNeg) M_25 L_25 dX8_behind_115 rfl hw hW
      · replace hw := hw.2 c_30
        refine lv_iload_n hx hb0 dX8_behind_33 rfl (lv_at hl 0 rfl) ?_
        exact hret _ ls _ _ r_25 M_25 L_25 dX8_behind_34 rfl hw hW
    · replace hw := hw.2 c_18
      refine lv_bipush (v := (-2 : Int32)) hx hb0 dX8_behind_21 (by decide) ?_
      exact hret _ ls _ _ (-2 : Int32) M_15 L_15 dX8_behind_23 rfl hw hW
  · replace hw := hw.2 c_8
    refine lv_iconst (v := (-1 : Int32)) hx hb0 dX8_behind_11 (by decide) ?_
    exact hret _ ls _ _ (-1 : Int32) M_5 L_5 dX8_behind_12 rfl hw hW
theorem kX8_behind (l : Launch) (D : va_G) (cy : Nat → ClassId) (ad : Nat → Nat) (hi : zInj ad) (x1 : Int32) (x2 : Int32) : zMi l yX8_behind (.code yX8_behind cX8_behind 4 (some .int) :: zG) rmX8_behind D cy ad [.ref (ad 0), .int x1, .int x2] (wpX8_behind x1 x2) :=
  zMi_of (by decide +kernel) (Nat.le_of_ble_eq_true rfl) hi (fun X M L post _ hret ls hl hw hW => mX8_behind X post hret M L x1 x2 _ _ ls hw hW hl)
abbrev rmX8_stands : Room := { frames := 6, cells := 0, slots := 0, locals := 167 }
set_option maxRecDepth 20000 in
set_option maxHeartbeats 4000000 in
theorem mX8_stands {p : Program} {l : Launch} {e : Env} {s : State} {m : MethodId} {args : Array Value} {below : List Frame} {meth : Method} {c : Code} {cells slots : Nat} {Q : State → Prop} {D : va_G} {cy : Nat → ClassId} {ad : Nat → Nat} {A : Nat → Prop} (X : zCx p rmX8_stands s m args c cells slots cX8_stands 4 RX8 D cy ad A) (post : Int32 → Mm → Ml → Prop) (hret : zRi p l e rmX8_stands s m args below meth c cells slots Q cX8_stands D cy ad A .int post) : ∀ (M : Mm) (L : Ml) (x1 : Int32) (x2 : Int32) (H : Heap) (locs : List Loc) (ls : Array Slot), wpX8_stands x1 x2 M L post → zWd D cy ad A s H locs M L → lv_has ls 4 [(0, .ref (ad 0)), (1, .int x1), (2, .int x2)] → W p l e rmX8_stands s m args below meth c H locs cells slots Q (F0 m 0 ls []) := by
  have hx := X.1.1; have hb0 := X.1.2.1; have hts := X.1.2.2.2.2
  intro M L x1 x2 H locs ls hw hW hl
  unfold wpX8_stands at hw
  refine lv_iload_n hx hb0 dX8_stands_0 rfl (lv_at hl 1 rfl) ?_
  refine lv_bipush (v := (6 : Int32)) hx hb0 dX8_stands_1 (by decide) ?_
  refine z_Si X zc_X8_isBelow zt_X8_isBelow zl_X8_59 rfl ⟨rfl, rfl⟩ ⟨Nat.le_of_ble_eq_true rfl, Nat.le_of_ble_eq_true rfl⟩ (kX8_isBelow l D cy ad X.2.2.2.1 x1 (6 : Int32)) hW hw hl.1 rfl rfl (Nat.le_of_ble_eq_true rfl) dX8_stands_3 (fun r_3 M_3 L_3 H_3 locs_3 hw hW => ?_)
  refine lv_if_ne (tgt := 11) hx hb0 dX8_stands_6 (by decide) (fun c_6 => ?_) (fun c_6 => ?_)
  · replace hw := hw.1 c_6
    refine lv_iload_n hx hb0 dX8_stands_11 rfl (lv_at hl 2 rfl) ?_
    refine lv_iconst (v := (3 : Int32)) hx hb0 dX8_stands_12 (by decide) ?_
    refine z_Si X zc_X8_isBelow zt_X8_isBelow zl_X8_59 rfl ⟨rfl, rfl⟩ ⟨Nat.le_of_ble_eq_true rfl, Nat.le_of_ble_eq_true rfl⟩ (kX8_isBelow l D cy ad X.2.2.2.1 x2 (3 : Int32)) hW hw hl.1 rfl rfl (Nat.le_of_ble_eq_true rfl) dX8_stands_13 (fun r_13 M_13 L_13 H_13 locs_13 hw hW => ?_)
    refine lv_if_ne (tgt := 22) hx hb0 dX8_stands_16 (by decide) (fun c_16 => ?_) (fun c_16 => ?_)
    · replace hw := hw.1 c_16
      refine lv_aload_n hx hb0 dX8_stands_22 rfl (lv_at hl 0 rfl) ?_
      refine z_Vi X zO_0 zC6 zc_X8_refusalOfDays zs_X8_refusalOfDays zl_X8_107 rfl ⟨rfl, rfl⟩ ⟨Nat.le_of_ble_eq_true rfl, Nat.le_of_ble_eq_true rfl⟩ (kX8_refusalOfDays l D cy ad X.2.2.2.1) hW hw hl.1 rfl rfl (Nat.le_of_ble_eq_true rfl) dX8_stands_23 (fun r_23 M_23 L_23 H_23 locs_23 hw hW => ?_)
      refine lv_istore_n (lv' := [(3, .int r_23), (0, .ref (ad 0)), (1, .int x1), (2, .int x2)]) hx hb0 dX8_stands_26 rfl hl (by decide) rfl (fun ls hl => ?_)
      refine lv_iload_n hx hb0 dX8_stands_27 rfl (lv_at hl 0 rfl) ?_
      refine lv_if_eq (tgt := 33) hx hb0 dX8_stands_28 (by decide) (fun c_28 => ?_) (fun c_28 => ?_)
      · replace hw := hw.1 c_28
        refine lv_iload_n hx hb0 dX8_stands_33 rfl (lv_at hl 3 rfl) ?_
        by_cases c_34_0 : x2 = (0 : Int32)
        · replace hw := hw.1 c_34_0
          refine lv_lookup (tgt := 60) (off := 26) hx hb0 dX8_stands_34 rfl (by rw [c_34_0]; rfl) (by decide) ?_
          refine lv_aload_n hx hb0 dX8_stands_60 rfl (lv_at hl 1 rfl) ?_
          refine z_getR (k2 := 6) X hW zC6 zR_0_4 (by decide) rfl zl_X8_34 dX8_stands_61 ?_
          refine z_getRN (k2 := 35) X hW zC1 zR_6_0 (by decide) rfl zn_X8_119 dX8_stands_64 ?_
          refine z_getRN (k2 := 41) X hW zC5 (zRY_6 isY_35) (by decide) rfl zn_X8_84 dX8_stands_67 ?_
          refine lv_iload_n hx hb0 dX8_stands_70 rfl (lv_at hl 2 rfl) ?_
          obtain ⟨g_71, hw⟩ := hw
          refine z_iald X hW (zIY_6 isY_35) g_71 dX8_stands_71 ?_
          exact hret _ ls _ _ (M_23 41 x1.toNatClampNeg) M_23 L_23 dX8_stands_72 rfl hw hW
        · replace hw := hw.2 c_34_0
          by_cases c_34_1 : x2 = (1 : Int32)
          · replace hw := hw.1 c_34_1
            refine lv_lookup (tgt := 73) (off := 39) hx hb0 dX8_stands_34 rfl (by rw [c_34_1]; rfl) (by decide) ?_
            refine lv_aload_n hx hb0 dX8_stands_73 rfl (lv_at hl 1 rfl) ?_
            refine z_getR (k2 := 6) X hW zC6 zR_0_4 (by decide) rfl zl_X8_34 dX8_stands_74 ?_
            refine z_getRN (k2 := 35) X hW zC1 zR_6_0 (by decide) rfl zn_X8_119 dX8_stands_77 ?_
            refine z_getIN X hW zC5 (zFY_7 isY_35) (by decide) rfl zn_X8_88 dX8_stands_80 ?_
            refine lv_iload_n hx hb0 dX8_stands_83 rfl (lv_at hl 2 rfl) ?_
            refine z_Si X zc_X8_bit zt_X8_bit zl_X8_134 rfl ⟨rfl, rfl⟩ ⟨Nat.le_of_ble_eq_true rfl, Nat.le_of_ble_eq_true rfl⟩ (kX8_bit l D cy ad X.2.2.2.1 (M_23 35 7) x1) hW hw hl.1 rfl rfl (Nat.le_of_ble_eq_true rfl) dX8_stands_84 (fun r_84 M_84 L_84 H_84 locs_84 hw hW => ?_)
            exact hret _ ls _ _ r_84 M_84 L_84 dX8_stands_87 rfl hw hW
          · replace hw := hw.2 c_34_1
            refine lv_lookup (tgt := 88) (off := 54) hx hb0 dX8_stands_34 rfl (by show Op.lookupswitch.offset [(0, 26), (1, 39)] 54 x2.toInt = _; rw [lv_osw c_34_0 (by decide), lv_osw c_34_1 (by decide)]; rfl) (by decide) ?_
            refine lv_aload_n hx hb0 dX8_stands_88 rfl (lv_at hl 1 rfl) ?_
            refine z_getR (k2 := 6) X hW zC6 zR_0_4 (by decide) rfl zl_X8_34 dX8_stands_89 ?_
            refine z_getRN (k2 := 35) X hW zC1 zR_6_0 (by decide) rfl zn_X8_119 dX8_stands_92 ?_
            refine lv_iload_n hx hb0 dX8_stands_95 rfl (lv_at hl 2 rfl) ?_
            refine z_VNi X (zOY isY_35) zC5 zc_X7_flakesWith zs_X7_flakesWith zn_X8_138 rfl ⟨rfl, rfl⟩ ⟨Nat.le_of_ble_eq_true rfl, Nat.le_of_ble_eq_true rfl⟩ (kX7_flakesWith l D cy ad X.2.2.2.1 isY_35 x1) hW hw hl.1 rfl rfl (Nat.le_of_ble_eq_true rfl) dX8_stands_96 (fun r_96 M_96 L_96 H_96 locs_96 hw hW => ?_)
            exact hret _ ls _ _ r_96 M_96 L_96 dX8_stands_99 rfl hw hW
      · replace hw := hw.2 c_28
        refine lv_iload_n hx hb0 dX8_stands_31 rfl (lv_at hl 0 rfl) ?_
        exact hret _ ls _ _ r_23 M_23 L_23 dX8_stands_32 rfl hw hW
    · replace hw := hw.2 c_16
      refine lv_bipush (v := (-2 : Int32)) hx hb0 dX8_stands_19 (by decide) ?_
      exact hret _ ls _ _ (-2 : Int32) M_13 L_13 dX8_stands_21 rfl hw hW
  · replace hw := hw.2 c_6
    refine lv_iconst (v := (-1 : Int32)) hx hb0 dX8_stands_9 (by decide) ?_
    exact hret _ ls _ _ (-1 : Int32) M_3 L_3 dX8_stands_10 rfl hw hW
theorem kX8_stands (l : Launch) (D : va_G) (cy : Nat → ClassId) (ad : Nat → Nat) (hi : zInj ad) (x1 : Int32) (x2 : Int32) : zMi l yX8_stands (.code yX8_stands cX8_stands 4 (some .int) :: zG) rmX8_stands D cy ad [.ref (ad 0), .int x1, .int x2] (wpX8_stands x1 x2) :=
  zMi_of (by decide +kernel) (Nat.le_of_ble_eq_true rfl) hi (fun X M L post _ hret ls hl hw hW => mX8_stands X post hret M L x1 x2 _ _ ls hw hW hl)
abbrev rmX8_posted : Room := { frames := 6, cells := 0, slots := 0, locals := 167 }
set_option maxRecDepth 20000 in
set_option maxHeartbeats 4000000 in
theorem mX8_posted {p : Program} {l : Launch} {e : Env} {s : State} {m : MethodId} {args : Array Value} {below : List Frame} {meth : Method} {c : Code} {cells slots : Nat} {Q : State → Prop} {D : va_G} {cy : Nat → ClassId} {ad : Nat → Nat} {A : Nat → Prop} (X : zCx p rmX8_posted s m args c cells slots cX8_posted 3 RX8 D cy ad A) (post : Int32 → Mm → Ml → Prop) (hret : zRi p l e rmX8_posted s m args below meth c cells slots Q cX8_posted D cy ad A .int post) : ∀ (M : Mm) (L : Ml) (x1 : Int32) (H : Heap) (locs : List Loc) (ls : Array Slot), wpX8_posted x1 M L post → zWd D cy ad A s H locs M L → lv_has ls 3 [(0, .ref (ad 0)), (1, .int x1)] → W p l e rmX8_posted s m args below meth c H locs cells slots Q (F0 m 0 ls []) := by
  have hx := X.1.1; have hb0 := X.1.2.1; have hts := X.1.2.2.2.2
  intro M L x1 H locs ls hw hW hl
  unfold wpX8_posted at hw
  refine lv_iload_n hx hb0 dX8_posted_0 rfl (lv_at hl 1 rfl) ?_
  refine lv_iconst (v := (3 : Int32)) hx hb0 dX8_posted_1 (by decide) ?_
  refine z_Si X zc_X8_isBelow zt_X8_isBelow zl_X8_59 rfl ⟨rfl, rfl⟩ ⟨Nat.le_of_ble_eq_true rfl, Nat.le_of_ble_eq_true rfl⟩ (kX8_isBelow l D cy ad X.2.2.2.1 x1 (3 : Int32)) hW hw hl.1 rfl rfl (Nat.le_of_ble_eq_true rfl) dX8_posted_2 (fun r_2 M_2 L_2 H_2 locs_2 hw hW => ?_)
  refine lv_if_ne (tgt := 11) hx hb0 dX8_posted_5 (by decide) (fun c_5 => ?_) (fun c_5 => ?_)
  · replace hw := hw.1 c_5
    refine lv_aload_n hx hb0 dX8_posted_11 rfl (lv_at hl 0 rfl) ?_
    refine z_Vi X zO_0 zC6 zc_X8_refusalOfDays zs_X8_refusalOfDays zl_X8_107 rfl ⟨rfl, rfl⟩ ⟨Nat.le_of_ble_eq_true rfl, Nat.le_of_ble_eq_true rfl⟩ (kX8_refusalOfDays l D cy ad X.2.2.2.1) hW hw hl.1 rfl rfl (Nat.le_of_ble_eq_true rfl) dX8_posted_12 (fun r_12 M_12 L_12 H_12 locs_12 hw hW => ?_)
    refine lv_istore_n (lv' := [(2, .int r_12), (0, .ref (ad 0)), (1, .int x1)]) hx hb0 dX8_posted_15 rfl hl (by decide) rfl (fun ls hl => ?_)
    refine lv_iload_n hx hb0 dX8_posted_16 rfl (lv_at hl 0 rfl) ?_
    refine lv_if_eq (tgt := 22) hx hb0 dX8_posted_17 (by decide) (fun c_17 => ?_) (fun c_17 => ?_)
    · replace hw := hw.1 c_17
      refine lv_iload_n hx hb0 dX8_posted_22 rfl (lv_at hl 2 rfl) ?_
      by_cases c_23_0 : x1 = (0 : Int32)
      · replace hw := hw.1 c_23_0
        refine lv_lookup (tgt := 48) (off := 25) hx hb0 dX8_posted_23 rfl (by rw [c_23_0]; rfl) (by decide) ?_
        refine lv_aload_n hx hb0 dX8_posted_48 rfl (lv_at hl 1 rfl) ?_
        refine z_getR (k2 := 6) X hW zC6 zR_0_4 (by decide) rfl zl_X8_34 dX8_posted_49 ?_
        refine z_getRN (k2 := 35) X hW zC1 zR_6_0 (by decide) rfl zn_X8_119 dX8_posted_52 ?_
        refine z_VNi X (zOY isY_35) zC5 zc_X7_delivered zs_X7_delivered zn_X8_141 rfl ⟨rfl, rfl⟩ ⟨Nat.le_of_ble_eq_true rfl, Nat.le_of_ble_eq_true rfl⟩ (kX7_delivered l D cy ad X.2.2.2.1 isY_35) hW hw hl.1 rfl rfl (Nat.le_of_ble_eq_true rfl) dX8_posted_55 (fun r_55 M_55 L_55 H_55 locs_55 hw hW => ?_)
        exact hret _ ls _ _ r_55 M_55 L_55 dX8_posted_58 rfl hw hW
      · replace hw := hw.2 c_23_0
        by_cases c_23_1 : x1 = (1 : Int32)
        · replace hw := hw.1 c_23_1
          refine lv_lookup (tgt := 59) (off := 36) hx hb0 dX8_posted_23 rfl (by rw [c_23_1]; rfl) (by decide) ?_
          refine lv_aload_n hx hb0 dX8_posted_59 rfl (lv_at hl 1 rfl) ?_
          refine z_getR (k2 := 6) X hW zC6 zR_0_4 (by decide) rfl zl_X8_34 dX8_posted_60 ?_
          refine z_getIN X hW zC1 zF_6_3 (by decide) rfl zn_X8_144 dX8_posted_63 ?_
          exact hret _ ls _ _ (M_12 6 3) M_12 L_12 dX8_posted_66 rfl hw hW
        · replace hw := hw.2 c_23_1
          refine lv_lookup (tgt := 67) (off := 44) hx hb0 dX8_posted_23 rfl (by show Op.lookupswitch.offset [(0, 25), (1, 36)] 44 x1.toInt = _; rw [lv_osw c_23_0 (by decide), lv_osw c_23_1 (by decide)]; rfl) (by decide) ?_
          refine lv_aload_n hx hb0 dX8_posted_67 rfl (lv_at hl 1 rfl) ?_
          refine z_getR (k2 := 6) X hW zC6 zR_0_4 (by decide) rfl zl_X8_34 dX8_posted_68 ?_
          refine z_getRN (k2 := 35) X hW zC1 zR_6_0 (by decide) rfl zn_X8_119 dX8_posted_71 ?_
          refine z_VNi X (zOY isY_35) zC5 zc_X7_inRiver zs_X7_inRiver zn_X8_147 rfl ⟨rfl, rfl⟩ ⟨Nat.le_of_ble_eq_true rfl, Nat.le_of_ble_eq_true rfl⟩ (kX7_inRiver l D cy ad X.2.2.2.1 isY_35) hW hw hl.1 rfl rfl (Nat.le_of_ble_eq_true rfl) dX8_posted_74 (fun r_74 M_74 L_74 H_74 locs_74 hw hW => ?_)
          refine z_Si X zc_J6_bitCount_0f7a4 zt_J6_bitCount_0f7a4 zl_X8_70 rfl ⟨rfl, rfl⟩ ⟨Nat.le_of_ble_eq_true rfl, Nat.le_of_ble_eq_true rfl⟩ (kJ6_bitCount_0f7a4 l D cy ad X.2.2.2.1 r_74) hW hw hl.1 rfl rfl (Nat.le_of_ble_eq_true rfl) dX8_posted_77 (fun r_77 M_77 L_77 H_77 locs_77 hw hW => ?_)
          exact hret _ ls _ _ r_77 M_77 L_77 dX8_posted_80 rfl hw hW
    · replace hw := hw.2 c_17
      refine lv_iload_n hx hb0 dX8_posted_20 rfl (lv_at hl 0 rfl) ?_
      exact hret _ ls _ _ r_12 M_12 L_12 dX8_posted_21 rfl hw hW
  · replace hw := hw.2 c_5
    refine lv_bipush (v := (-2 : Int32)) hx hb0 dX8_posted_8 (by decide) ?_
    exact hret _ ls _ _ (-2 : Int32) M_2 L_2 dX8_posted_10 rfl hw hW
theorem kX8_posted (l : Launch) (D : va_G) (cy : Nat → ClassId) (ad : Nat → Nat) (hi : zInj ad) (x1 : Int32) : zMi l yX8_posted (.code yX8_posted cX8_posted 3 (some .int) :: zG) rmX8_posted D cy ad [.ref (ad 0), .int x1] (wpX8_posted x1) :=
  zMi_of (by decide +kernel) (Nat.le_of_ble_eq_true rfl) hi (fun X M L post _ hret ls hl hw hW => mX8_posted X post hret M L x1 _ _ ls hw hW hl)
abbrev rmX8_done : Room := { frames := 6, cells := 0, slots := 0, locals := 167 }
set_option maxRecDepth 20000 in
set_option maxHeartbeats 4000000 in
theorem mX8_done {p : Program} {l : Launch} {e : Env} {s : State} {m : MethodId} {args : Array Value} {below : List Frame} {meth : Method} {c : Code} {cells slots : Nat} {Q : State → Prop} {D : va_G} {cy : Nat → ClassId} {ad : Nat → Nat} {A : Nat → Prop} (X : zCx p rmX8_done s m args c cells slots cX8_done 2 RX8 D cy ad A) (post : Int32 → Mm → Ml → Prop) (hret : zRi p l e rmX8_done s m args below meth c cells slots Q cX8_done D cy ad A .int post) : ∀ (M : Mm) (L : Ml) (H : Heap) (locs : List Loc) (ls : Array Slot), wpX8_done M L post → zWd D cy ad A s H locs M L → lv_has ls 2 [(0, .ref (ad 0))] → W p l e rmX8_done s m args below meth c H locs cells slots Q (F0 m 0 ls []) := by
  have hx := X.1.1; have hb0 := X.1.2.1; have hts := X.1.2.2.2.2
  intro M L H locs ls hw hW hl
  unfold wpX8_done at hw
  refine lv_aload_n hx hb0 dX8_done_0 rfl (lv_at hl 0 rfl) ?_
  refine z_Vi X zO_0 zC6 zc_X8_refusalOfDays zs_X8_refusalOfDays zl_X8_107 rfl ⟨rfl, rfl⟩ ⟨Nat.le_of_ble_eq_true rfl, Nat.le_of_ble_eq_true rfl⟩ (kX8_refusalOfDays l D cy ad X.2.2.2.1) hW hw hl.1 rfl rfl (Nat.le_of_ble_eq_true rfl) dX8_done_1 (fun r_1 M_1 L_1 H_1 locs_1 hw hW => ?_)
  refine lv_istore_n (lv' := [(1, .int r_1), (0, .ref (ad 0))]) hx hb0 dX8_done_4 rfl hl (by decide) rfl (fun ls hl => ?_)
  refine lv_iload_n hx hb0 dX8_done_5 rfl (lv_at hl 0 rfl) ?_
  refine lv_if_eq (tgt := 11) hx hb0 dX8_done_6 (by decide) (fun c_6 => ?_) (fun c_6 => ?_)
  · replace hw := hw.1 c_6
    refine lv_aload_n hx hb0 dX8_done_11 rfl (lv_at hl 1 rfl) ?_
    refine z_getR (k2 := 14) X hW zC6 zR_0_0 (by decide) rfl zl_X8_10 dX8_done_12 ?_
    refine lv_aload_n hx hb0 dX8_done_15 rfl (lv_at hl 1 rfl) ?_
    refine z_getR (k2 := 6) X hW zC6 zR_0_4 (by decide) rfl zl_X8_34 dX8_done_16 ?_
    refine z_getRN (k2 := 35) X hW zC1 zR_6_0 (by decide) rfl zn_X8_119 dX8_done_19 ?_
    refine z_VNv X (zOY isY_14) zC5 zc_X7_copy zs_X7_copy zn_X8_150 rfl ⟨rfl, rfl⟩ ⟨Nat.le_of_ble_eq_true rfl, Nat.le_of_ble_eq_true rfl⟩ (kX7_copy l D cy ad X.2.2.2.1 isY_14 isY_35) hW hw hl.1 rfl rfl (Nat.le_of_ble_eq_true rfl) dX8_done_22 (fun M_22 L_22 H_22 locs_22 hw hW => ?_)
    refine lv_aload_n hx hb0 dX8_done_25 rfl (lv_at hl 1 rfl) ?_
    refine z_getR (k2 := 2) X hW zC6 zR_0_3 (by decide) rfl zl_X8_27 dX8_done_26 ?_
    refine lv_iconst (v := (0 : Int32)) hx hb0 dX8_done_29 (by decide) ?_
    refine z_putN (ty := .int) X hW zC3 zF_2_1 (by decide) rfl zn_X8_100 rfl (by decide +kernel) rfl rfl dX8_done_30 (fun M_30 H_30 locs_30 e_30 hW => ?_)
    replace hw := hw M_30 e_30
    refine lv_aload_n hx hb0 dX8_done_33 rfl (lv_at hl 1 rfl) ?_
    refine z_getR (k2 := 2) X hW zC6 zR_0_3 (by decide) rfl zl_X8_27 dX8_done_34 ?_
    refine z_getIN X hW zC3 zF_2_4 (by decide) rfl zn_X8_154 dX8_done_37 ?_
    exact hret _ ls _ _ (M_30 2 4) M_30 L_22 dX8_done_40 rfl hw hW
  · replace hw := hw.2 c_6
    refine lv_iload_n hx hb0 dX8_done_9 rfl (lv_at hl 0 rfl) ?_
    exact hret _ ls _ _ r_1 M_1 L_1 dX8_done_10 rfl hw hW
theorem kX8_done (l : Launch) (D : va_G) (cy : Nat → ClassId) (ad : Nat → Nat) (hi : zInj ad) : zMi l yX8_done (.code yX8_done cX8_done 2 (some .int) :: zG) rmX8_done D cy ad [.ref (ad 0)] (wpX8_done) :=
  zMi_of (by decide +kernel) (Nat.le_of_ble_eq_true rfl) hi (fun X M L post _ hret ls hl hw hW => mX8_done X post hret M L _ _ ls hw hW hl)
abbrev rmX8_says : Room := { frames := 2, cells := 0, slots := 0, locals := 44 }
set_option maxRecDepth 20000 in
set_option maxHeartbeats 4000000 in
theorem mX8_says_19 {p : Program} {l : Launch} {e : Env} {s : State} {m : MethodId} {args : Array Value} {below : List Frame} {meth : Method} {c : Code} {cells slots : Nat} {Q : State → Prop} {D : va_G} {cy : Nat → ClassId} {ad : Nat → Nat} {A : Nat → Prop} (X : zCx p rmX8_says s m args c cells slots cX8_says 2 RX8 D cy ad A) (post : Int32 → Mm → Ml → Prop) (hret : zRi p l e rmX8_says s m args below meth c cells slots Q cX8_says D cy ad A .int post) : ∀ (M : Mm) (L : Ml) (s0 : Int32) (H : Heap) (locs : List Loc) (ls : Array Slot), wpX8_says_19 post M L s0 → zWd D cy ad A s H locs M L → lv_has ls 2 [] → W p l e rmX8_says s m args below meth c H locs cells slots Q (F0 m 19 ls [.int s0]) := by
  have hx := X.1.1; have hb0 := X.1.2.1; have hts := X.1.2.2.2.2
  intro M L s0 H locs ls hw hW hl
  unfold wpX8_says_19 at hw
  exact hret _ ls _ _ s0 M L dX8_says_19 rfl hw hW
set_option maxRecDepth 20000 in
set_option maxHeartbeats 4000000 in
theorem mX8_says {p : Program} {l : Launch} {e : Env} {s : State} {m : MethodId} {args : Array Value} {below : List Frame} {meth : Method} {c : Code} {cells slots : Nat} {Q : State → Prop} {D : va_G} {cy : Nat → ClassId} {ad : Nat → Nat} {A : Nat → Prop} (X : zCx p rmX8_says s m args c cells slots cX8_says 2 RX8 D cy ad A) (post : Int32 → Mm → Ml → Prop) (hret : zRi p l e rmX8_says s m args below meth c cells slots Q cX8_says D cy ad A .int post) : ∀ (M : Mm) (L : Ml) (x1 : Int32) (H : Heap) (locs : List Loc) (ls : Array Slot), wpX8_says x1 M L post → zWd D cy ad A s H locs M L → lv_has ls 2 [(0, .ref (ad 0)), (1, .int x1)] → W p l e rmX8_says s m args below meth c H locs cells slots Q (F0 m 0 ls []) := by
  have hx := X.1.1; have hb0 := X.1.2.1; have hts := X.1.2.2.2.2
  intro M L x1 H locs ls hw hW hl
  unfold wpX8_says at hw
  refine lv_iload_n hx hb0 dX8_says_0 rfl (lv_at hl 1 rfl) ?_
  refine lv_sipush (v := (256 : Int32)) hx hb0 dX8_says_1 (by decide) ?_
  refine z_Si X zc_X8_isBelow zt_X8_isBelow zl_X8_59 rfl ⟨rfl, rfl⟩ ⟨Nat.le_of_ble_eq_true rfl, Nat.le_of_ble_eq_true rfl⟩ (kX8_isBelow l D cy ad X.2.2.2.1 x1 (256 : Int32)) hW hw hl.1 rfl rfl (Nat.le_of_ble_eq_true rfl) dX8_says_4 (fun r_4 M_4 L_4 H_4 locs_4 hw hW => ?_)
  refine lv_if_eq (tgt := 17) hx hb0 dX8_says_7 (by decide) (fun c_7 => ?_) (fun c_7 => ?_)
  · replace hw := hw.1 c_7
    refine lv_bipush (v := (-2 : Int32)) hx hb0 dX8_says_17 (by decide) ?_
    exact mX8_says_19 X post hret M_4 L_4 (-2 : Int32) _ _ ls hw hW (lv_sub hl [] rfl)
  · replace hw := hw.2 c_7
    refine lv_iload_n hx hb0 dX8_says_10 rfl (lv_at hl 1 rfl) ?_
    refine z_SNi X zc_X3_readAloud zt_X3_readAloud zn_X8_157 rfl ⟨rfl, rfl⟩ ⟨Nat.le_of_ble_eq_true rfl, Nat.le_of_ble_eq_true rfl⟩ (kX3_readAloud l D cy ad X.2.2.2.1 x1) hW hw hl.1 rfl rfl (Nat.le_of_ble_eq_true rfl) dX8_says_11 (fun r_11 M_11 L_11 H_11 locs_11 hw hW => ?_)
    refine lv_goto (tgt := 19) hx hb0 dX8_says_14 (by decide) ?_
    exact mX8_says_19 X post hret M_11 L_11 r_11 _ _ ls hw hW (lv_sub hl [] rfl)
theorem kX8_says (l : Launch) (D : va_G) (cy : Nat → ClassId) (ad : Nat → Nat) (hi : zInj ad) (x1 : Int32) : zMi l yX8_says (.code yX8_says cX8_says 2 (some .int) :: zG) rmX8_says D cy ad [.ref (ad 0), .int x1] (wpX8_says x1) :=
  zMi_of (by decide +kernel) (Nat.le_of_ble_eq_true rfl) hi (fun X M L post _ hret ls hl hw hW => mX8_says X post hret M L x1 _ _ ls hw hW hl)
abbrev rmX8_grew : Room := { frames := 16, cells := 0, slots := 0, locals := 386 }
set_option maxRecDepth 20000 in
set_option maxHeartbeats 4000000 in
theorem mX8_grew_38 {p : Program} {l : Launch} {e : Env} {s : State} {m : MethodId} {args : Array Value} {below : List Frame} {meth : Method} {c : Code} {cells slots : Nat} {Q : State → Prop} {D : va_G} {cy : Nat → ClassId} {ad : Nat → Nat} {A : Nat → Prop} (X : zCx p rmX8_grew s m args c cells slots cX8_grew 5 RX8 D cy ad A) (post : Int64 → Mm → Ml → Prop) (hret : zRl p l e rmX8_grew s m args below meth c cells slots Q cX8_grew D cy ad A post) : ∀ (M : Mm) (L : Ml) (H : Heap) (locs : List Loc) (ls : Array Slot), wpX8_grew_38 post M L → zWd D cy ad A s H locs M L → lv_has ls 5 [] → W p l e rmX8_grew s m args below meth c H locs cells slots Q (F0 m 38 ls []) := by
  have hx := X.1.1; have hb0 := X.1.2.1; have hts := X.1.2.2.2.2
  intro M L H locs ls hw hW hl
  unfold wpX8_grew_38 at hw
  refine lv_ldc2 (v := (-2 : Int64)) hx hb0 X.1.2.2.2.1 (hts _ zk_X8_162) dX8_grew_38 ?_
  exact hret _ ls _ _ (-2 : Int64) M L dX8_grew_41 hw hW
set_option maxRecDepth 20000 in
set_option maxHeartbeats 4000000 in
theorem mX8_grew {p : Program} {l : Launch} {e : Env} {s : State} {m : MethodId} {args : Array Value} {below : List Frame} {meth : Method} {c : Code} {cells slots : Nat} {Q : State → Prop} {D : va_G} {cy : Nat → ClassId} {ad : Nat → Nat} {A : Nat → Prop} (X : zCx p rmX8_grew s m args c cells slots cX8_grew 5 RX8 D cy ad A) (post : Int64 → Mm → Ml → Prop) (hret : zRl p l e rmX8_grew s m args below meth c cells slots Q cX8_grew D cy ad A post) : ∀ (M : Mm) (L : Ml) (x1 : Int32) (x2 : Int32) (x3 : Int32) (x4 : Int32) (H : Heap) (locs : List Loc) (ls : Array Slot), wpX8_grew x1 x2 x3 x4 M L post → zWd D cy ad A s H locs M L → lv_has ls 5 [(0, .ref (ad 0)), (1, .int x1), (2, .int x2), (3, .int x3), (4, .int x4)] → W p l e rmX8_grew s m args below meth c H locs cells slots Q (F0 m 0 ls []) := by
  have hx := X.1.1; have hb0 := X.1.2.1; have hts := X.1.2.2.2.2
  intro M L x1 x2 x3 x4 H locs ls hw hW hl
  unfold wpX8_grew at hw
  refine lv_iload_n hx hb0 dX8_grew_0 rfl (lv_at hl 1 rfl) ?_
  refine lv_sipush (v := (256 : Int32)) hx hb0 dX8_grew_1 (by decide) ?_
  refine z_Si X zc_X8_isBelow zt_X8_isBelow zl_X8_59 rfl ⟨rfl, rfl⟩ ⟨Nat.le_of_ble_eq_true rfl, Nat.le_of_ble_eq_true rfl⟩ (kX8_isBelow l D cy ad X.2.2.2.1 x1 (256 : Int32)) hW hw hl.1 rfl rfl (Nat.le_of_ble_eq_true rfl) dX8_grew_4 (fun r_4 M_4 L_4 H_4 locs_4 hw hW => ?_)
  refine lv_if_eq (tgt := 38) hx hb0 dX8_grew_7 (by decide) (fun c_7 => ?_) (fun c_7 => ?_)
  · replace hw := hw.1 c_7
    exact mX8_grew_38 X post hret M_4 L_4 _ _ ls hw hW (lv_sub hl [] rfl)
  · replace hw := hw.2 c_7
    refine lv_iload_n hx hb0 dX8_grew_10 rfl (lv_at hl 2 rfl) ?_
    refine lv_sipush (v := (256 : Int32)) hx hb0 dX8_grew_11 (by decide) ?_
    refine z_Si X zc_X8_isBelow zt_X8_isBelow zl_X8_59 rfl ⟨rfl, rfl⟩ ⟨Nat.le_of_ble_eq_true rfl, Nat.le_of_ble_eq_true rfl⟩ (kX8_isBelow l D cy ad X.2.2.2.1 x2 (256 : Int32)) hW hw hl.1 rfl rfl (Nat.le_of_ble_eq_true rfl) dX8_grew_14 (fun r_14 M_14 L_14 H_14 locs_14 hw hW => ?_)
    refine lv_if_eq (tgt := 38) hx hb0 dX8_grew_17 (by decide) (fun c_17 => ?_) (fun c_17 => ?_)
    · replace hw := hw.1 c_17
      exact mX8_grew_38 X post hret M_14 L_14 _ _ ls hw hW (lv_sub hl [] rfl)
    · replace hw := hw.2 c_17
      refine lv_iload_n hx hb0 dX8_grew_20 rfl (lv_at hl 3 rfl) ?_
      refine lv_bipush (v := (11 : Int32)) hx hb0 dX8_grew_21 (by decide) ?_
      refine z_Si X zc_X8_isBelow zt_X8_isBelow zl_X8_59 rfl ⟨rfl, rfl⟩ ⟨Nat.le_of_ble_eq_true rfl, Nat.le_of_ble_eq_true rfl⟩ (kX8_isBelow l D cy ad X.2.2.2.1 x3 (11 : Int32)) hW hw hl.1 rfl rfl (Nat.le_of_ble_eq_true rfl) dX8_grew_23 (fun r_23 M_23 L_23 H_23 locs_23 hw hW => ?_)
      refine lv_if_eq (tgt := 38) hx hb0 dX8_grew_26 (by decide) (fun c_26 => ?_) (fun c_26 => ?_)
      · replace hw := hw.1 c_26
        exact mX8_grew_38 X post hret M_23 L_23 _ _ ls hw hW (lv_sub hl [] rfl)
      · replace hw := hw.2 c_26
        refine lv_iload hx hb0 dX8_grew_29 (lv_at hl 4 rfl) ?_
        refine lv_iconst (v := (2 : Int32)) hx hb0 dX8_grew_31 (by decide) ?_
        refine z_Si X zc_X8_isBelow zt_X8_isBelow zl_X8_59 rfl ⟨rfl, rfl⟩ ⟨Nat.le_of_ble_eq_true rfl, Nat.le_of_ble_eq_true rfl⟩ (kX8_isBelow l D cy ad X.2.2.2.1 x4 (2 : Int32)) hW hw hl.1 rfl rfl (Nat.le_of_ble_eq_true rfl) dX8_grew_32 (fun r_32 M_32 L_32 H_32 locs_32 hw hW => ?_)
        refine lv_if_ne (tgt := 42) hx hb0 dX8_grew_35 (by decide) (fun c_35 => ?_) (fun c_35 => ?_)
        · replace hw := hw.1 c_35
          refine lv_iload hx hb0 dX8_grew_42 (lv_at hl 4 rfl) ?_
          refine lv_if_ne (tgt := 69) hx hb0 dX8_grew_44 (by decide) (fun c_44 => ?_) (fun c_44 => ?_)
          · replace hw := hw.1 c_44
            refine lv_iload_n hx hb0 dX8_grew_69 rfl (lv_at hl 1 rfl) ?_
            refine lv_iload_n hx hb0 dX8_grew_70 rfl (lv_at hl 2 rfl) ?_
            refine lv_iload_n hx hb0 dX8_grew_71 rfl (lv_at hl 3 rfl) ?_
            refine lv_aload_n hx hb0 dX8_grew_72 rfl (lv_at hl 0 rfl) ?_
            refine z_getR (k2 := 14) X hW zC6 zR_0_0 (by decide) rfl zl_X8_10 dX8_grew_73 ?_
            refine z_getIN X hW zC5 (zFY_8 isY_14) (by decide) rfl zn_X8_91 dX8_grew_76 ?_
            refine lv_aload_n hx hb0 dX8_grew_79 rfl (lv_at hl 0 rfl) ?_
            refine z_getR (k2 := 14) X hW zC6 zR_0_0 (by decide) rfl zl_X8_10 dX8_grew_80 ?_
            refine z_getIN X hW zC5 (zFY_9 isY_14) (by decide) rfl zn_X8_94 dX8_grew_83 ?_
            refine z_SNl X zc_X3_firstRow zt_X3_firstRow zn_X8_168 rfl ⟨rfl, rfl⟩ ⟨Nat.le_of_ble_eq_true rfl, Nat.le_of_ble_eq_true rfl⟩ (kX3_firstRow l D cy ad X.2.2.2.1 x1 x2 x3 (M_32 14 8) (M_32 14 9)) hW hw hl.1 rfl rfl (Nat.le_of_ble_eq_true rfl) dX8_grew_86 (fun r_86 M_86 L_86 H_86 locs_86 hw hW => ?_)
            exact hret _ ls _ _ r_86 M_86 L_86 dX8_grew_89 hw hW
          · replace hw := hw.2 c_44
            refine lv_iload_n hx hb0 dX8_grew_47 rfl (lv_at hl 1 rfl) ?_
            refine lv_iload_n hx hb0 dX8_grew_48 rfl (lv_at hl 2 rfl) ?_
            refine lv_iload_n hx hb0 dX8_grew_49 rfl (lv_at hl 3 rfl) ?_
            refine lv_aload_n hx hb0 dX8_grew_50 rfl (lv_at hl 0 rfl) ?_
            refine z_getR (k2 := 14) X hW zC6 zR_0_0 (by decide) rfl zl_X8_10 dX8_grew_51 ?_
            refine z_getIN X hW zC5 (zFY_8 isY_14) (by decide) rfl zn_X8_91 dX8_grew_54 ?_
            refine lv_aload_n hx hb0 dX8_grew_57 rfl (lv_at hl 0 rfl) ?_
            refine z_getR (k2 := 14) X hW zC6 zR_0_0 (by decide) rfl zl_X8_10 dX8_grew_58 ?_
            refine z_getIN X hW zC5 (zFY_9 isY_14) (by decide) rfl zn_X8_94 dX8_grew_61 ?_
            refine z_SNi X zc_X3_rows zt_X3_rows zn_X8_164 rfl ⟨rfl, rfl⟩ ⟨Nat.le_of_ble_eq_true rfl, Nat.le_of_ble_eq_true rfl⟩ (kX3_rows l D cy ad X.2.2.2.1 11 x1 x2 x3 (M_32 14 8) (M_32 14 9)) hW hw hl.1 rfl rfl (Nat.le_of_ble_eq_true rfl) dX8_grew_64 (fun r_64 M_64 L_64 H_64 locs_64 hw hW => ?_)
            refine lv_i2l hx hb0 dX8_grew_67 rfl ?_
            exact hret _ ls _ _ (r_64.toInt64) M_64 L_64 dX8_grew_68 hw hW
        · replace hw := hw.2 c_35
          exact mX8_grew_38 X post hret M_32 L_32 _ _ ls hw hW (lv_sub hl [] rfl)
theorem kX8_grew (l : Launch) (D : va_G) (cy : Nat → ClassId) (ad : Nat → Nat) (hi : zInj ad) (x1 : Int32) (x2 : Int32) (x3 : Int32) (x4 : Int32) : zMl l yX8_grew (.code yX8_grew cX8_grew 5 (some .long) :: zG) rmX8_grew D cy ad [.ref (ad 0), .int x1, .int x2, .int x3, .int x4] (wpX8_grew x1 x2 x3 x4) :=
  zMl_of (by decide +kernel) (Nat.le_of_ble_eq_true rfl) hi (fun X M L post _ hret ls hl hw hW => mX8_grew X post hret M L x1 x2 x3 x4 _ _ ls hw hW hl)
abbrev rmX8_soon : Room := { frames := 3, cells := 0, slots := 0, locals := 70 }
set_option maxRecDepth 20000 in
set_option maxHeartbeats 4000000 in
theorem mX8_soon_20 {p : Program} {l : Launch} {e : Env} {s : State} {m : MethodId} {args : Array Value} {below : List Frame} {meth : Method} {c : Code} {cells slots : Nat} {Q : State → Prop} {D : va_G} {cy : Nat → ClassId} {ad : Nat → Nat} {A : Nat → Prop} (X : zCx p rmX8_soon s m args c cells slots cX8_soon 3 RX8 D cy ad A) (post : Int32 → Mm → Ml → Prop) (hret : zRi p l e rmX8_soon s m args below meth c cells slots Q cX8_soon D cy ad A .int post) : ∀ (M : Mm) (L : Ml) (H : Heap) (locs : List Loc) (ls : Array Slot), wpX8_soon_20 post M L → zWd D cy ad A s H locs M L → lv_has ls 3 [] → W p l e rmX8_soon s m args below meth c H locs cells slots Q (F0 m 20 ls []) := by
  have hx := X.1.1; have hb0 := X.1.2.1; have hts := X.1.2.2.2.2
  intro M L H locs ls hw hW hl
  unfold wpX8_soon_20 at hw
  refine lv_bipush (v := (-2 : Int32)) hx hb0 dX8_soon_20 (by decide) ?_
  exact hret _ ls _ _ (-2 : Int32) M L dX8_soon_22 rfl hw hW
set_option maxRecDepth 20000 in
set_option maxHeartbeats 4000000 in
theorem mX8_soon {p : Program} {l : Launch} {e : Env} {s : State} {m : MethodId} {args : Array Value} {below : List Frame} {meth : Method} {c : Code} {cells slots : Nat} {Q : State → Prop} {D : va_G} {cy : Nat → ClassId} {ad : Nat → Nat} {A : Nat → Prop} (X : zCx p rmX8_soon s m args c cells slots cX8_soon 3 RX8 D cy ad A) (post : Int32 → Mm → Ml → Prop) (hret : zRi p l e rmX8_soon s m args below meth c cells slots Q cX8_soon D cy ad A .int post) : ∀ (M : Mm) (L : Ml) (x1 : Int32) (x2 : Int32) (H : Heap) (locs : List Loc) (ls : Array Slot), wpX8_soon x1 x2 M L post → zWd D cy ad A s H locs M L → lv_has ls 3 [(0, .ref (ad 0)), (1, .int x1), (2, .int x2)] → W p l e rmX8_soon s m args below meth c H locs cells slots Q (F0 m 0 ls []) := by
  have hx := X.1.1; have hb0 := X.1.2.1; have hts := X.1.2.2.2.2
  intro M L x1 x2 H locs ls hw hW hl
  unfold wpX8_soon at hw
  refine lv_iload_n hx hb0 dX8_soon_0 rfl (lv_at hl 1 rfl) ?_
  refine lv_sipush (v := (256 : Int32)) hx hb0 dX8_soon_1 (by decide) ?_
  refine z_Si X zc_X8_isBelow zt_X8_isBelow zl_X8_59 rfl ⟨rfl, rfl⟩ ⟨Nat.le_of_ble_eq_true rfl, Nat.le_of_ble_eq_true rfl⟩ (kX8_isBelow l D cy ad X.2.2.2.1 x1 (256 : Int32)) hW hw hl.1 rfl rfl (Nat.le_of_ble_eq_true rfl) dX8_soon_4 (fun r_4 M_4 L_4 H_4 locs_4 hw hW => ?_)
  refine lv_if_eq (tgt := 20) hx hb0 dX8_soon_7 (by decide) (fun c_7 => ?_) (fun c_7 => ?_)
  · replace hw := hw.1 c_7
    exact mX8_soon_20 X post hret M_4 L_4 _ _ ls hw hW (lv_sub hl [] rfl)
  · replace hw := hw.2 c_7
    refine lv_iload_n hx hb0 dX8_soon_10 rfl (lv_at hl 2 rfl) ?_
    refine lv_sipush (v := (256 : Int32)) hx hb0 dX8_soon_11 (by decide) ?_
    refine z_Si X zc_X8_isBelow zt_X8_isBelow zl_X8_59 rfl ⟨rfl, rfl⟩ ⟨Nat.le_of_ble_eq_true rfl, Nat.le_of_ble_eq_true rfl⟩ (kX8_isBelow l D cy ad X.2.2.2.1 x2 (256 : Int32)) hW hw hl.1 rfl rfl (Nat.le_of_ble_eq_true rfl) dX8_soon_14 (fun r_14 M_14 L_14 H_14 locs_14 hw hW => ?_)
    refine lv_if_ne (tgt := 23) hx hb0 dX8_soon_17 (by decide) (fun c_17 => ?_) (fun c_17 => ?_)
    · replace hw := hw.1 c_17
      refine lv_aload_n hx hb0 dX8_soon_23 rfl (lv_at hl 0 rfl) ?_
      refine z_getR (k2 := 7) X hW zC6 zR_0_5 (by decide) rfl zl_X8_41 dX8_soon_24 ?_
      refine lv_iload_n hx hb0 dX8_soon_27 rfl (lv_at hl 1 rfl) ?_
      refine lv_iload_n hx hb0 dX8_soon_28 rfl (lv_at hl 2 rfl) ?_
      refine lv_aload_n hx hb0 dX8_soon_29 rfl (lv_at hl 0 rfl) ?_
      refine z_getR (k2 := 14) X hW zC6 zR_0_0 (by decide) rfl zl_X8_10 dX8_soon_30 ?_
      refine z_getIN X hW zC5 (zFY_8 isY_14) (by decide) rfl zn_X8_91 dX8_soon_33 ?_
      refine lv_aload_n hx hb0 dX8_soon_36 rfl (lv_at hl 0 rfl) ?_
      refine z_getR (k2 := 14) X hW zC6 zR_0_0 (by decide) rfl zl_X8_10 dX8_soon_37 ?_
      refine z_getIN X hW zC5 (zFY_9 isY_14) (by decide) rfl zn_X8_94 dX8_soon_40 ?_
      refine z_VNi X zO_7 zC0 zc_X0_fewestAirs zs_X0_fewestAirs zn_X8_172 rfl ⟨rfl, rfl⟩ ⟨Nat.le_of_ble_eq_true rfl, Nat.le_of_ble_eq_true rfl⟩ (kX0_fewestAirs l D cy ad X.2.2.2.1 x1 x2 (M_14 14 8) (M_14 14 9)) hW hw hl.1 rfl rfl (Nat.le_of_ble_eq_true rfl) dX8_soon_43 (fun r_43 M_43 L_43 H_43 locs_43 hw hW => ?_)
      exact hret _ ls _ _ r_43 M_43 L_43 dX8_soon_46 rfl hw hW
    · replace hw := hw.2 c_17
      exact mX8_soon_20 X post hret M_14 L_14 _ _ ls hw hW (lv_sub hl [] rfl)
theorem kX8_soon (l : Launch) (D : va_G) (cy : Nat → ClassId) (ad : Nat → Nat) (hi : zInj ad) (x1 : Int32) (x2 : Int32) : zMi l yX8_soon (.code yX8_soon cX8_soon 3 (some .int) :: zG) rmX8_soon D cy ad [.ref (ad 0), .int x1, .int x2] (wpX8_soon x1 x2) :=
  zMi_of (by decide +kernel) (Nat.le_of_ble_eq_true rfl) hi (fun X M L post _ hret ls hl hw hW => mX8_soon X post hret M L x1 x2 _ _ ls hw hW hl)
abbrev rmX8_most : Room := { frames := 3, cells := 0, slots := 0, locals := 73 }
set_option maxRecDepth 20000 in
set_option maxHeartbeats 4000000 in
theorem mX8_most_32 {p : Program} {l : Launch} {e : Env} {s : State} {m : MethodId} {args : Array Value} {below : List Frame} {meth : Method} {c : Code} {cells slots : Nat} {Q : State → Prop} {D : va_G} {cy : Nat → ClassId} {ad : Nat → Nat} {A : Nat → Prop} (X : zCx p rmX8_most s m args c cells slots cX8_most 2 RX8 D cy ad A) (post : Int32 → Mm → Ml → Prop) (hret : zRi p l e rmX8_most s m args below meth c cells slots Q cX8_most D cy ad A .int post) : ∀ (M : Mm) (L : Ml) (s0 : Int32) (H : Heap) (locs : List Loc) (ls : Array Slot), wpX8_most_32 post M L s0 → zWd D cy ad A s H locs M L → lv_has ls 2 [] → W p l e rmX8_most s m args below meth c H locs cells slots Q (F0 m 32 ls [.int s0]) := by
  have hx := X.1.1; have hb0 := X.1.2.1; have hts := X.1.2.2.2.2
  intro M L s0 H locs ls hw hW hl
  unfold wpX8_most_32 at hw
  exact hret _ ls _ _ s0 M L dX8_most_32 rfl hw hW
set_option maxRecDepth 20000 in
set_option maxHeartbeats 4000000 in
theorem mX8_most {p : Program} {l : Launch} {e : Env} {s : State} {m : MethodId} {args : Array Value} {below : List Frame} {meth : Method} {c : Code} {cells slots : Nat} {Q : State → Prop} {D : va_G} {cy : Nat → ClassId} {ad : Nat → Nat} {A : Nat → Prop} (X : zCx p rmX8_most s m args c cells slots cX8_most 2 RX8 D cy ad A) (post : Int32 → Mm → Ml → Prop) (hret : zRi p l e rmX8_most s m args below meth c cells slots Q cX8_most D cy ad A .int post) : ∀ (M : Mm) (L : Ml) (x1 : Int32) (H : Heap) (locs : List Loc) (ls : Array Slot), wpX8_most x1 M L post → zWd D cy ad A s H locs M L → lv_has ls 2 [(0, .ref (ad 0)), (1, .int x1)] → W p l e rmX8_most s m args below meth c H locs cells slots Q (F0 m 0 ls []) := by
  have hx := X.1.1; have hb0 := X.1.2.1; have hts := X.1.2.2.2.2
  intro M L x1 H locs ls hw hW hl
  unfold wpX8_most at hw
  refine lv_iload_n hx hb0 dX8_most_0 rfl (lv_at hl 1 rfl) ?_
  refine lv_iconst (v := (2 : Int32)) hx hb0 dX8_most_1 (by decide) ?_
  refine z_Si X zc_X8_isBelow zt_X8_isBelow zl_X8_59 rfl ⟨rfl, rfl⟩ ⟨Nat.le_of_ble_eq_true rfl, Nat.le_of_ble_eq_true rfl⟩ (kX8_isBelow l D cy ad X.2.2.2.1 x1 (2 : Int32)) hW hw hl.1 rfl rfl (Nat.le_of_ble_eq_true rfl) dX8_most_2 (fun r_2 M_2 L_2 H_2 locs_2 hw hW => ?_)
  refine lv_if_ne (tgt := 11) hx hb0 dX8_most_5 (by decide) (fun c_5 => ?_) (fun c_5 => ?_)
  · replace hw := hw.1 c_5
    refine lv_iload_n hx hb0 dX8_most_11 rfl (lv_at hl 1 rfl) ?_
    refine lv_if_ne (tgt := 25) hx hb0 dX8_most_12 (by decide) (fun c_12 => ?_) (fun c_12 => ?_)
    · replace hw := hw.1 c_12
      refine lv_aload_n hx hb0 dX8_most_25 rfl (lv_at hl 0 rfl) ?_
      refine z_getR (k2 := 14) X hW zC6 zR_0_0 (by decide) rfl zl_X8_10 dX8_most_26 ?_
      refine z_SNi X zc_X1_byWhoever zt_X1_byWhoever zn_X8_182 rfl ⟨rfl, rfl⟩ ⟨Nat.le_of_ble_eq_true rfl, Nat.le_of_ble_eq_true rfl⟩ (kX1_byWhoever l D cy ad X.2.2.2.1 isY_14) hW hw hl.1 rfl rfl (Nat.le_of_ble_eq_true rfl) dX8_most_29 (fun r_29 M_29 L_29 H_29 locs_29 hw hW => ?_)
      exact mX8_most_32 X post hret M_29 L_29 r_29 _ _ ls hw hW (lv_sub hl [] rfl)
    · replace hw := hw.2 c_12
      refine lv_aload_n hx hb0 dX8_most_15 rfl (lv_at hl 0 rfl) ?_
      refine z_getR (k2 := 14) X hW zC6 zR_0_0 (by decide) rfl zl_X8_10 dX8_most_16 ?_
      refine z_SNi X zc_X1_byAddressees zt_X1_byAddressees zn_X8_176 rfl ⟨rfl, rfl⟩ ⟨Nat.le_of_ble_eq_true rfl, Nat.le_of_ble_eq_true rfl⟩ (kX1_byAddressees l D cy ad X.2.2.2.1 isY_14) hW hw hl.1 rfl rfl (Nat.le_of_ble_eq_true rfl) dX8_most_19 (fun r_19 M_19 L_19 H_19 locs_19 hw hW => ?_)
      refine lv_goto (tgt := 32) hx hb0 dX8_most_22 (by decide) ?_
      exact mX8_most_32 X post hret M_19 L_19 r_19 _ _ ls hw hW (lv_sub hl [] rfl)
  · replace hw := hw.2 c_5
    refine lv_bipush (v := (-2 : Int32)) hx hb0 dX8_most_8 (by decide) ?_
    exact hret _ ls _ _ (-2 : Int32) M_2 L_2 dX8_most_10 rfl hw hW
theorem kX8_most (l : Launch) (D : va_G) (cy : Nat → ClassId) (ad : Nat → Nat) (hi : zInj ad) (x1 : Int32) : zMi l yX8_most (.code yX8_most cX8_most 2 (some .int) :: zG) rmX8_most D cy ad [.ref (ad 0), .int x1] (wpX8_most x1) :=
  zMi_of (by decide +kernel) (Nat.le_of_ble_eq_true rfl) hi (fun X M L post _ hret ls hl hw hW => mX8_most X post hret M L x1 _ _ ls hw hW hl)
abbrev rmX8_patch : Room := { frames := 3, cells := 0, slots := 0, locals := 65 }
set_option maxRecDepth 20000 in
set_option maxHeartbeats 4000000 in
theorem mX8_patch_77 {p : Program} {l : Launch} {e : Env} {s : State} {m : MethodId} {args : Array Value} {below : List Frame} {meth : Method} {c : Code} {cells slots : Nat} {Q : State → Prop} {D : va_G} {cy : Nat → ClassId} {ad : Nat → Nat} {A : Nat → Prop} (X : zCx p rmX8_patch s m args c cells slots cX8_patch 7 RX8 D cy ad A) (post : Int32 → Mm → Ml → Prop) (hret : zRi p l e rmX8_patch s m args below meth c cells slots Q cX8_patch D cy ad A .int post) (K31 : Mm → Ml → Int32 → Int32 → Int32 → Int32 → Int32 → Int32 → Prop) (hK31 : ∀ (M : Mm) (L : Ml) (v1 : Int32) (v2 : Int32) (v3 : Int32) (v4 : Int32) (v5 : Int32) (v6 : Int32) (H : Heap) (locs : List Loc) (ls : Array Slot), K31 M L v1 v2 v3 v4 v5 v6 → zWd D cy ad A s H locs M L → lv_has ls 7 [(1, .int v1), (2, .int v2), (3, .int v3), (4, .int v4), (5, .int v5), (6, .int v6)] → W p l e rmX8_patch s m args below meth c H locs cells slots Q (F0 m 31 ls [])) : ∀ (M : Mm) (L : Ml) (v1 : Int32) (v2 : Int32) (v3 : Int32) (v4 : Int32) (v5 : Int32) (v6 : Int32) (H : Heap) (locs : List Loc) (ls : Array Slot), wpX8_patch_77 post K31 M L v1 v2 v3 v4 v5 v6 → zWd D cy ad A s H locs M L → lv_has ls 7 [(1, .int v1), (2, .int v2), (3, .int v3), (4, .int v4), (5, .int v5), (6, .int v6)] → W p l e rmX8_patch s m args below meth c H locs cells slots Q (F0 m 77 ls []) := by
  have hx := X.1.1; have hb0 := X.1.2.1; have hts := X.1.2.2.2.2
  intro M L v1 v2 v3 v4 v5 v6 H locs ls hw hW hl
  unfold wpX8_patch_77 at hw
  obtain ⟨a_77, e_77⟩ : ∃ y : Int32, y = v6 + (1 : Int32) := ⟨_, rfl⟩
  replace hw := hw a_77 e_77
  refine lv_iinc (v := a_77) (lv' := [(6, .int a_77), (1, .int v1), (2, .int v2), (3, .int v3), (4, .int v4), (5, .int v5)]) hx hb0 dX8_patch_77 hl (k := 5) rfl (by rw [e_77]; rfl) (by decide) rfl (fun ls hl => ?_)
  refine lv_goto (tgt := 31) hx hb0 dX8_patch_80 (by decide) ?_
  exact hK31 M L v1 v2 v3 v4 v5 a_77 _ _ ls hw hW (lv_sub hl [1, 2, 3, 4, 5, 0] rfl)
set_option maxRecDepth 20000 in
set_option maxHeartbeats 4000000 in
theorem mX8_patch_56 {p : Program} {l : Launch} {e : Env} {s : State} {m : MethodId} {args : Array Value} {below : List Frame} {meth : Method} {c : Code} {cells slots : Nat} {Q : State → Prop} {D : va_G} {cy : Nat → ClassId} {ad : Nat → Nat} {A : Nat → Prop} (X : zCx p rmX8_patch s m args c cells slots cX8_patch 7 RX8 D cy ad A) (post : Int32 → Mm → Ml → Prop) (hret : zRi p l e rmX8_patch s m args below meth c cells slots Q cX8_patch D cy ad A .int post) (K31 : Mm → Ml → Int32 → Int32 → Int32 → Int32 → Int32 → Int32 → Prop) (hK31 : ∀ (M : Mm) (L : Ml) (v1 : Int32) (v2 : Int32) (v3 : Int32) (v4 : Int32) (v5 : Int32) (v6 : Int32) (H : Heap) (locs : List Loc) (ls : Array Slot), K31 M L v1 v2 v3 v4 v5 v6 → zWd D cy ad A s H locs M L → lv_has ls 7 [(1, .int v1), (2, .int v2), (3, .int v3), (4, .int v4), (5, .int v5), (6, .int v6)] → W p l e rmX8_patch s m args below meth c H locs cells slots Q (F0 m 31 ls [])) : ∀ (M : Mm) (L : Ml) (v1 : Int32) (v2 : Int32) (v3 : Int32) (v4 : Int32) (v6 : Int32) (s0 : Int32) (H : Heap) (locs : List Loc) (ls : Array Slot), wpX8_patch_56 post K31 M L v1 v2 v3 v4 v6 s0 → zWd D cy ad A s H locs M L → lv_has ls 7 [(1, .int v1), (2, .int v2), (3, .int v3), (4, .int v4), (6, .int v6)] → W p l e rmX8_patch s m args below meth c H locs cells slots Q (F0 m 56 ls [.int s0]) := by
  have hx := X.1.1; have hb0 := X.1.2.1; have hts := X.1.2.2.2.2
  intro M L v1 v2 v3 v4 v6 s0 H locs ls hw hW hl
  unfold wpX8_patch_56 at hw
  refine lv_istore (lv' := [(5, .int s0), (1, .int v1), (2, .int v2), (3, .int v3), (4, .int v4), (6, .int v6)]) hx hb0 dX8_patch_56 hl (by decide) rfl (fun ls hl => ?_)
  refine lv_iload hx hb0 dX8_patch_58 (lv_at hl 0 rfl) ?_
  refine lv_iload hx hb0 dX8_patch_60 (lv_at hl 4 rfl) ?_
  refine lv_icmp_le (tgt := 77) hx hb0 dX8_patch_62 (by decide) (fun c_62 => ?_) (fun c_62 => ?_)
  · replace hw := hw.1 c_62
    exact mX8_patch_77 X post hret K31 hK31 M L v1 v2 v3 v4 s0 v6 _ _ ls hw hW (lv_sub hl [1, 2, 3, 4, 0, 5] rfl)
  · replace hw := hw.2 c_62
    refine lv_iload hx hb0 dX8_patch_65 (lv_at hl 0 rfl) ?_
    refine lv_istore (lv' := [(4, .int s0), (5, .int s0), (1, .int v1), (2, .int v2), (3, .int v3), (6, .int v6)]) hx hb0 dX8_patch_67 hl (by decide) rfl (fun ls hl => ?_)
    refine lv_iload hx hb0 dX8_patch_69 (lv_at hl 5 rfl) ?_
    refine lv_iload hx hb0 dX8_patch_71 (lv_at hl 1 rfl) ?_
    refine lv_isub hx hb0 dX8_patch_73 ?_
    refine lv_iconst (v := (1 : Int32)) hx hb0 dX8_patch_74 (by decide) ?_
    refine lv_iadd hx hb0 dX8_patch_75 ?_
    refine lv_topi (fun a_76 e_76 => ?_)
    replace hw := hw a_76 e_76
    refine lv_istore_n (lv' := [(3, .int a_76), (4, .int s0), (5, .int s0), (1, .int v1), (2, .int v2), (6, .int v6)]) hx hb0 dX8_patch_76 rfl hl (by decide) rfl (fun ls hl => ?_)
    exact mX8_patch_77 X post hret K31 hK31 M L v1 v2 a_76 s0 s0 v6 _ _ ls hw hW (lv_sub hl [3, 4, 0, 1, 2, 5] rfl)
set_option maxRecDepth 20000 in
set_option maxHeartbeats 4000000 in
theorem mX8_patch_93 {p : Program} {l : Launch} {e : Env} {s : State} {m : MethodId} {args : Array Value} {below : List Frame} {meth : Method} {c : Code} {cells slots : Nat} {Q : State → Prop} {D : va_G} {cy : Nat → ClassId} {ad : Nat → Nat} {A : Nat → Prop} (X : zCx p rmX8_patch s m args c cells slots cX8_patch 7 RX8 D cy ad A) (post : Int32 → Mm → Ml → Prop) (hret : zRi p l e rmX8_patch s m args below meth c cells slots Q cX8_patch D cy ad A .int post) : ∀ (M : Mm) (L : Ml) (s0 : Int32) (H : Heap) (locs : List Loc) (ls : Array Slot), wpX8_patch_93 post M L s0 → zWd D cy ad A s H locs M L → lv_has ls 7 [] → W p l e rmX8_patch s m args below meth c H locs cells slots Q (F0 m 93 ls [.int s0]) := by
  have hx := X.1.1; have hb0 := X.1.2.1; have hts := X.1.2.2.2.2
  intro M L s0 H locs ls hw hW hl
  unfold wpX8_patch_93 at hw
  exact hret _ ls _ _ s0 M L dX8_patch_93 rfl hw hW
set_option maxRecDepth 20000 in
set_option maxHeartbeats 4000000 in
theorem mX8_patch_31 {p : Program} {l : Launch} {e : Env} {s : State} {m : MethodId} {args : Array Value} {below : List Frame} {meth : Method} {c : Code} {cells slots : Nat} {Q : State → Prop} {D : va_G} {cy : Nat → ClassId} {ad : Nat → Nat} {A : Nat → Prop} (X : zCx p rmX8_patch s m args c cells slots cX8_patch 7 RX8 D cy ad A) (post : Int32 → Mm → Ml → Prop) (hret : zRi p l e rmX8_patch s m args below meth c cells slots Q cX8_patch D cy ad A .int post) : ∀ (j9 : Nat) (M : Mm) (L : Ml) (v1 : Int32) (v2 : Int32) (v3 : Int32) (v4 : Int32) (v5 : Int32) (v6 : Int32) (H : Heap) (locs : List Loc) (ls : Array Slot), wlX8_patch_31 post j9 (M, L, v1, v2, v3, v4, v5, v6) → zWd D cy ad A s H locs M L → lv_has ls 7 [(1, .int v1), (2, .int v2), (3, .int v3), (4, .int v4), (5, .int v5), (6, .int v6)] → W p l e rmX8_patch s m args below meth c H locs cells slots Q (F0 m 31 ls []) := by
  have hx := X.1.1; have hb0 := X.1.2.1; have hts := X.1.2.2.2.2
  intro j9
  induction j9 with
  | zero => intro M L v1 v2 v3 v4 v5 v6 H locs ls hw; exact hw.elim
  | succ j9 ih =>
    obtain ⟨K31, hKe⟩ : ∃ K : Mm → Ml → Int32 → Int32 → Int32 → Int32 → Int32 → Int32 → Prop, K = fun M L v1 v2 v3 v4 v5 v6 => wlX8_patch_31 post j9 (M, L, v1, v2, v3, v4, v5, v6) := ⟨_, rfl⟩
    have hK31 : ∀ (M : Mm) (L : Ml) (v1 : Int32) (v2 : Int32) (v3 : Int32) (v4 : Int32) (v5 : Int32) (v6 : Int32) (H : Heap) (locs : List Loc) (ls : Array Slot), K31 M L v1 v2 v3 v4 v5 v6 → zWd D cy ad A s H locs M L → lv_has ls 7 [(1, .int v1), (2, .int v2), (3, .int v3), (4, .int v4), (5, .int v5), (6, .int v6)] → W p l e rmX8_patch s m args below meth c H locs cells slots Q (F0 m 31 ls []) := by intro M L v1 v2 v3 v4 v5 v6 H locs ls hw; rw [hKe] at hw; exact ih M L v1 v2 v3 v4 v5 v6 H locs ls hw
    intro M L v1 v2 v3 v4 v5 v6 H locs ls hw hW hl
    have hw : wpX8_patch_31 post K31 M L v1 v2 v3 v4 v5 v6 := by rw [hKe]; exact hw
    clear ih
    unfold wpX8_patch_31 at hw
    refine lv_iload hx hb0 dX8_patch_31 (lv_at hl 5 rfl) ?_
    refine lv_bipush (v := (16 : Int32)) hx hb0 dX8_patch_33 (by decide) ?_
    refine lv_icmp_ge (tgt := 83) hx hb0 dX8_patch_35 (by decide) (fun c_35 => ?_) (fun c_35 => ?_)
    · replace hw := hw.1 c_35
      refine lv_iload_n hx hb0 dX8_patch_83 rfl (lv_at hl 0 rfl) ?_
      refine lv_if_ne (tgt := 92) hx hb0 dX8_patch_84 (by decide) (fun c_84 => ?_) (fun c_84 => ?_)
      · replace hw := hw.1 c_84
        refine lv_iload_n hx hb0 dX8_patch_92 rfl (lv_at hl 2 rfl) ?_
        exact mX8_patch_93 X post hret M L v3 _ _ ls hw hW (lv_sub hl [] rfl)
      · replace hw := hw.2 c_84
        refine lv_iload hx hb0 dX8_patch_87 (lv_at hl 3 rfl) ?_
        refine lv_goto (tgt := 93) hx hb0 dX8_patch_89 (by decide) ?_
        exact mX8_patch_93 X post hret M L v4 _ _ ls hw hW (lv_sub hl [] rfl)
    · replace hw := hw.2 c_35
      refine lv_iload_n hx hb0 dX8_patch_38 rfl (lv_at hl 1 rfl) ?_
      refine lv_iload hx hb0 dX8_patch_39 (lv_at hl 5 rfl) ?_
      refine z_Si X zc_X8_bit zt_X8_bit zl_X8_134 rfl ⟨rfl, rfl⟩ ⟨Nat.le_of_ble_eq_true rfl, Nat.le_of_ble_eq_true rfl⟩ (kX8_bit l D cy ad X.2.2.2.1 v2 v6) hW hw hl.1 rfl rfl (Nat.le_of_ble_eq_true rfl) dX8_patch_41 (fun r_41 M_41 L_41 H_41 locs_41 hw hW => ?_)
      refine lv_iconst (v := (1 : Int32)) hx hb0 dX8_patch_44 (by decide) ?_
      refine lv_icmp_ne (tgt := 52) hx hb0 dX8_patch_45 (by decide) (fun c_45 => ?_) (fun c_45 => ?_)
      · replace hw := hw.1 c_45
        refine lv_iload hx hb0 dX8_patch_52 (lv_at hl 4 rfl) ?_
        refine lv_iconst (v := (1 : Int32)) hx hb0 dX8_patch_54 (by decide) ?_
        refine lv_iadd hx hb0 dX8_patch_55 ?_
        exact mX8_patch_56 X post hret K31 hK31 M_41 L_41 v1 v2 v3 v4 v6 (v5 + (1 : Int32)) _ _ ls hw hW (lv_sub hl [0, 1, 2, 3, 5] rfl)
      · replace hw := hw.2 c_45
        refine lv_iconst (v := (0 : Int32)) hx hb0 dX8_patch_48 (by decide) ?_
        refine lv_goto (tgt := 56) hx hb0 dX8_patch_49 (by decide) ?_
        exact mX8_patch_56 X post hret K31 hK31 M_41 L_41 v1 v2 v3 v4 v6 (0 : Int32) _ _ ls hw hW (lv_sub hl [0, 1, 2, 3, 5] rfl)
set_option maxRecDepth 20000 in
set_option maxHeartbeats 4000000 in
theorem mX8_patch {p : Program} {l : Launch} {e : Env} {s : State} {m : MethodId} {args : Array Value} {below : List Frame} {meth : Method} {c : Code} {cells slots : Nat} {Q : State → Prop} {D : va_G} {cy : Nat → ClassId} {ad : Nat → Nat} {A : Nat → Prop} (X : zCx p rmX8_patch s m args c cells slots cX8_patch 7 RX8 D cy ad A) (post : Int32 → Mm → Ml → Prop) (hret : zRi p l e rmX8_patch s m args below meth c cells slots Q cX8_patch D cy ad A .int post) : ∀ (M : Mm) (L : Ml) (x1 : Int32) (H : Heap) (locs : List Loc) (ls : Array Slot), wpX8_patch x1 M L post → zWd D cy ad A s H locs M L → lv_has ls 7 [(0, .ref (ad 0)), (1, .int x1)] → W p l e rmX8_patch s m args below meth c H locs cells slots Q (F0 m 0 ls []) := by
  have hx := X.1.1; have hb0 := X.1.2.1; have hts := X.1.2.2.2.2
  intro M L x1 H locs ls hw hW hl
  unfold wpX8_patch at hw
  refine lv_iload_n hx hb0 dX8_patch_0 rfl (lv_at hl 1 rfl) ?_
  refine lv_iconst (v := (2 : Int32)) hx hb0 dX8_patch_1 (by decide) ?_
  refine z_Si X zc_X8_isBelow zt_X8_isBelow zl_X8_59 rfl ⟨rfl, rfl⟩ ⟨Nat.le_of_ble_eq_true rfl, Nat.le_of_ble_eq_true rfl⟩ (kX8_isBelow l D cy ad X.2.2.2.1 x1 (2 : Int32)) hW hw hl.1 rfl rfl (Nat.le_of_ble_eq_true rfl) dX8_patch_2 (fun r_2 M_2 L_2 H_2 locs_2 hw hW => ?_)
  refine lv_if_ne (tgt := 11) hx hb0 dX8_patch_5 (by decide) (fun c_5 => ?_) (fun c_5 => ?_)
  · replace hw := hw.1 c_5
    refine lv_aload_n hx hb0 dX8_patch_11 rfl (lv_at hl 0 rfl) ?_
    refine z_getR (k2 := 14) X hW zC6 zR_0_0 (by decide) rfl zl_X8_10 dX8_patch_12 ?_
    refine z_VNi X (zOY isY_14) zC5 zc_X7_trodden zs_X7_trodden zn_X8_185 rfl ⟨rfl, rfl⟩ ⟨Nat.le_of_ble_eq_true rfl, Nat.le_of_ble_eq_true rfl⟩ (kX7_trodden l D cy ad X.2.2.2.1 isY_14) hW hw hl.1 rfl rfl (Nat.le_of_ble_eq_true rfl) dX8_patch_15 (fun r_15 M_15 L_15 H_15 locs_15 hw hW => ?_)
    refine lv_istore_n (lv' := [(2, .int r_15), (0, .ref (ad 0)), (1, .int x1)]) hx hb0 dX8_patch_18 rfl hl (by decide) rfl (fun ls hl => ?_)
    refine lv_bipush (v := (-6 : Int32)) hx hb0 dX8_patch_19 (by decide) ?_
    refine lv_istore_n (lv' := [(3, .int (-6 : Int32)), (2, .int r_15), (0, .ref (ad 0)), (1, .int x1)]) hx hb0 dX8_patch_21 rfl hl (by decide) rfl (fun ls hl => ?_)
    refine lv_iconst (v := (0 : Int32)) hx hb0 dX8_patch_22 (by decide) ?_
    refine lv_istore (lv' := [(4, .int (0 : Int32)), (3, .int (-6 : Int32)), (2, .int r_15), (0, .ref (ad 0)), (1, .int x1)]) hx hb0 dX8_patch_23 hl (by decide) rfl (fun ls hl => ?_)
    refine lv_iconst (v := (0 : Int32)) hx hb0 dX8_patch_25 (by decide) ?_
    refine lv_istore (lv' := [(5, .int (0 : Int32)), (4, .int (0 : Int32)), (3, .int (-6 : Int32)), (2, .int r_15), (0, .ref (ad 0)), (1, .int x1)]) hx hb0 dX8_patch_26 hl (by decide) rfl (fun ls hl => ?_)
    refine lv_iconst (v := (0 : Int32)) hx hb0 dX8_patch_28 (by decide) ?_
    refine lv_istore (lv' := [(6, .int (0 : Int32)), (5, .int (0 : Int32)), (4, .int (0 : Int32)), (3, .int (-6 : Int32)), (2, .int r_15), (0, .ref (ad 0)), (1, .int x1)]) hx hb0 dX8_patch_29 hl (by decide) rfl (fun ls hl => ?_)
    obtain ⟨n_31, hw⟩ := hw
    exact mX8_patch_31 X post hret n_31 M_15 L_15 x1 r_15 (-6 : Int32) (0 : Int32) (0 : Int32) (0 : Int32) _ _ ls hw hW (lv_sub hl [6, 4, 3, 2, 1, 0] rfl)
  · replace hw := hw.2 c_5
    refine lv_bipush (v := (-2 : Int32)) hx hb0 dX8_patch_8 (by decide) ?_
    exact hret _ ls _ _ (-2 : Int32) M_2 L_2 dX8_patch_10 rfl hw hW
theorem kX8_patch (l : Launch) (D : va_G) (cy : Nat → ClassId) (ad : Nat → Nat) (hi : zInj ad) (x1 : Int32) : zMi l yX8_patch (.code yX8_patch cX8_patch 7 (some .int) :: zG) rmX8_patch D cy ad [.ref (ad 0), .int x1] (wpX8_patch x1) :=
  zMi_of (by decide +kernel) (Nat.le_of_ble_eq_true rfl) hi (fun X M L post _ hret ls hl hw hW => mX8_patch X post hret M L x1 _ _ ls hw hW hl)
abbrev rmX8_seen : Room := { frames := 2, cells := 0, slots := 0, locals := 45 }
set_option maxRecDepth 20000 in
set_option maxHeartbeats 4000000 in
theorem mX8_seen_20 {p : Program} {l : Launch} {e : Env} {s : State} {m : MethodId} {args : Array Value} {below : List Frame} {meth : Method} {c : Code} {cells slots : Nat} {Q : State → Prop} {D : va_G} {cy : Nat → ClassId} {ad : Nat → Nat} {A : Nat → Prop} (X : zCx p rmX8_seen s m args c cells slots cX8_seen 3 RX8 D cy ad A) (post : Int32 → Mm → Ml → Prop) (hret : zRi p l e rmX8_seen s m args below meth c cells slots Q cX8_seen D cy ad A .int post) : ∀ (M : Mm) (L : Ml) (H : Heap) (locs : List Loc) (ls : Array Slot), wpX8_seen_20 post M L → zWd D cy ad A s H locs M L → lv_has ls 3 [] → W p l e rmX8_seen s m args below meth c H locs cells slots Q (F0 m 20 ls []) := by
  have hx := X.1.1; have hb0 := X.1.2.1; have hts := X.1.2.2.2.2
  intro M L H locs ls hw hW hl
  unfold wpX8_seen_20 at hw
  refine lv_bipush (v := (-2 : Int32)) hx hb0 dX8_seen_20 (by decide) ?_
  exact hret _ ls _ _ (-2 : Int32) M L dX8_seen_22 rfl hw hW
set_option maxRecDepth 20000 in
set_option maxHeartbeats 4000000 in
theorem mX8_seen {p : Program} {l : Launch} {e : Env} {s : State} {m : MethodId} {args : Array Value} {below : List Frame} {meth : Method} {c : Code} {cells slots : Nat} {Q : State → Prop} {D : va_G} {cy : Nat → ClassId} {ad : Nat → Nat} {A : Nat → Prop} (X : zCx p rmX8_seen s m args c cells slots cX8_seen 3 RX8 D cy ad A) (post : Int32 → Mm → Ml → Prop) (hret : zRi p l e rmX8_seen s m args below meth c cells slots Q cX8_seen D cy ad A .int post) : ∀ (M : Mm) (L : Ml) (x1 : Int32) (x2 : Int32) (H : Heap) (locs : List Loc) (ls : Array Slot), wpX8_seen x1 x2 M L post → zWd D cy ad A s H locs M L → lv_has ls 3 [(0, .ref (ad 0)), (1, .int x1), (2, .int x2)] → W p l e rmX8_seen s m args below meth c H locs cells slots Q (F0 m 0 ls []) := by
  have hx := X.1.1; have hb0 := X.1.2.1; have hts := X.1.2.2.2.2
  intro M L x1 x2 H locs ls hw hW hl
  unfold wpX8_seen at hw
  refine lv_iload_n hx hb0 dX8_seen_0 rfl (lv_at hl 1 rfl) ?_
  refine lv_sipush (v := (256 : Int32)) hx hb0 dX8_seen_1 (by decide) ?_
  refine z_Si X zc_X8_isBelow zt_X8_isBelow zl_X8_59 rfl ⟨rfl, rfl⟩ ⟨Nat.le_of_ble_eq_true rfl, Nat.le_of_ble_eq_true rfl⟩ (kX8_isBelow l D cy ad X.2.2.2.1 x1 (256 : Int32)) hW hw hl.1 rfl rfl (Nat.le_of_ble_eq_true rfl) dX8_seen_4 (fun r_4 M_4 L_4 H_4 locs_4 hw hW => ?_)
  refine lv_if_eq (tgt := 20) hx hb0 dX8_seen_7 (by decide) (fun c_7 => ?_) (fun c_7 => ?_)
  · replace hw := hw.1 c_7
    exact mX8_seen_20 X post hret M_4 L_4 _ _ ls hw hW (lv_sub hl [] rfl)
  · replace hw := hw.2 c_7
    refine lv_iload_n hx hb0 dX8_seen_10 rfl (lv_at hl 2 rfl) ?_
    refine lv_sipush (v := (256 : Int32)) hx hb0 dX8_seen_11 (by decide) ?_
    refine z_Si X zc_X8_isBelow zt_X8_isBelow zl_X8_59 rfl ⟨rfl, rfl⟩ ⟨Nat.le_of_ble_eq_true rfl, Nat.le_of_ble_eq_true rfl⟩ (kX8_isBelow l D cy ad X.2.2.2.1 x2 (256 : Int32)) hW hw hl.1 rfl rfl (Nat.le_of_ble_eq_true rfl) dX8_seen_14 (fun r_14 M_14 L_14 H_14 locs_14 hw hW => ?_)
    refine lv_if_ne (tgt := 23) hx hb0 dX8_seen_17 (by decide) (fun c_17 => ?_) (fun c_17 => ?_)
    · replace hw := hw.1 c_17
      refine lv_aload_n hx hb0 dX8_seen_23 rfl (lv_at hl 0 rfl) ?_
      refine z_getR (k2 := 14) X hW zC6 zR_0_0 (by decide) rfl zl_X8_10 dX8_seen_24 ?_
      refine z_getIN X hW zC5 (zFY_10 isY_14) (by decide) rfl zn_X8_188 dX8_seen_27 ?_
      refine lv_bipush (v := (8 : Int32)) hx hb0 dX8_seen_30 (by decide) ?_
      refine lv_icmp_lt (tgt := 38) hx hb0 dX8_seen_32 (by decide) (fun c_32 => ?_) (fun c_32 => ?_)
      · replace hw := hw.1 c_32
        refine lv_aload_n hx hb0 dX8_seen_38 rfl (lv_at hl 0 rfl) ?_
        refine z_getR (k2 := 14) X hW zC6 zR_0_0 (by decide) rfl zl_X8_10 dX8_seen_39 ?_
        refine lv_iload_n hx hb0 dX8_seen_42 rfl (lv_at hl 1 rfl) ?_
        refine lv_iload_n hx hb0 dX8_seen_43 rfl (lv_at hl 2 rfl) ?_
        refine z_VNv X (zOY isY_14) zC5 zc_X7_addSight zs_X7_addSight zn_X8_191 rfl ⟨rfl, rfl⟩ ⟨Nat.le_of_ble_eq_true rfl, Nat.le_of_ble_eq_true rfl⟩ (kX7_addSight l D cy ad X.2.2.2.1 isY_14 x1 x2) hW hw hl.1 rfl rfl (Nat.le_of_ble_eq_true rfl) dX8_seen_44 (fun M_44 L_44 H_44 locs_44 hw hW => ?_)
        refine lv_aload_n hx hb0 dX8_seen_47 rfl (lv_at hl 0 rfl) ?_
        refine z_getR (k2 := 14) X hW zC6 zR_0_0 (by decide) rfl zl_X8_10 dX8_seen_48 ?_
        refine z_getIN X hW zC5 (zFY_10 isY_14) (by decide) rfl zn_X8_188 dX8_seen_51 ?_
        exact hret _ ls _ _ (M_44 14 10) M_44 L_44 dX8_seen_54 rfl hw hW
      · replace hw := hw.2 c_32
        refine lv_bipush (v := (-4 : Int32)) hx hb0 dX8_seen_35 (by decide) ?_
        exact hret _ ls _ _ (-4 : Int32) M_14 L_14 dX8_seen_37 rfl hw hW
    · replace hw := hw.2 c_17
      exact mX8_seen_20 X post hret M_14 L_14 _ _ ls hw hW (lv_sub hl [] rfl)
theorem kX8_seen (l : Launch) (D : va_G) (cy : Nat → ClassId) (ad : Nat → Nat) (hi : zInj ad) (x1 : Int32) (x2 : Int32) : zMi l yX8_seen (.code yX8_seen cX8_seen 3 (some .int) :: zG) rmX8_seen D cy ad [.ref (ad 0), .int x1, .int x2] (wpX8_seen x1 x2) :=
  zMi_of (by decide +kernel) (Nat.le_of_ble_eq_true rfl) hi (fun X M L post _ hret ls hl hw hW => mX8_seen X post hret M L x1 x2 _ _ ls hw hW hl)
abbrev rmX8_forget : Room := { frames := 0, cells := 0, slots := 0, locals := 0 }
set_option maxRecDepth 20000 in
set_option maxHeartbeats 4000000 in
theorem mX8_forget {p : Program} {l : Launch} {e : Env} {s : State} {m : MethodId} {args : Array Value} {below : List Frame} {meth : Method} {c : Code} {cells slots : Nat} {Q : State → Prop} {D : va_G} {cy : Nat → ClassId} {ad : Nat → Nat} {A : Nat → Prop} (X : zCx p rmX8_forget s m args c cells slots cX8_forget 2 RX8 D cy ad A) (post : Int32 → Mm → Ml → Prop) (hret : zRi p l e rmX8_forget s m args below meth c cells slots Q cX8_forget D cy ad A .int post) : ∀ (M : Mm) (L : Ml) (H : Heap) (locs : List Loc) (ls : Array Slot), wpX8_forget M L post → zWd D cy ad A s H locs M L → lv_has ls 2 [(0, .ref (ad 0))] → W p l e rmX8_forget s m args below meth c H locs cells slots Q (F0 m 0 ls []) := by
  have hx := X.1.1; have hb0 := X.1.2.1; have hts := X.1.2.2.2.2
  intro M L H locs ls hw hW hl
  unfold wpX8_forget at hw
  refine lv_aload_n hx hb0 dX8_forget_0 rfl (lv_at hl 0 rfl) ?_
  refine z_getR (k2 := 14) X hW zC6 zR_0_0 (by decide) rfl zl_X8_10 dX8_forget_1 ?_
  refine z_getIN X hW zC5 (zFY_10 isY_14) (by decide) rfl zn_X8_188 dX8_forget_4 ?_
  refine lv_topi (fun a_7 e_7 => ?_)
  replace hw := hw a_7 e_7
  refine lv_istore_n (lv' := [(1, .int a_7), (0, .ref (ad 0))]) hx hb0 dX8_forget_7 rfl hl (by decide) rfl (fun ls hl => ?_)
  refine lv_aload_n hx hb0 dX8_forget_8 rfl (lv_at hl 1 rfl) ?_
  refine z_getR (k2 := 14) X hW zC6 zR_0_0 (by decide) rfl zl_X8_10 dX8_forget_9 ?_
  refine lv_iconst (v := (0 : Int32)) hx hb0 dX8_forget_12 (by decide) ?_
  refine z_putN (ty := .int) X hW zC5 (zFY_10 isY_14) (by decide) rfl zn_X8_188 rfl (by decide +kernel) rfl rfl dX8_forget_13 (fun M_13 H_13 locs_13 e_13 hW => ?_)
  replace hw := hw M_13 e_13
  refine lv_aload_n hx hb0 dX8_forget_16 rfl (lv_at hl 1 rfl) ?_
  refine z_getR (k2 := 14) X hW zC6 zR_0_0 (by decide) rfl zl_X8_10 dX8_forget_17 ?_
  refine lv_iconst (v := (0 : Int32)) hx hb0 dX8_forget_20 (by decide) ?_
  refine z_putN (ty := .int) X hW zC5 (zFY_11 isY_14) (by decide) rfl zn_X8_195 rfl (by decide +kernel) rfl rfl dX8_forget_21 (fun M_21 H_21 locs_21 e_21 hW => ?_)
  replace hw := hw M_21 e_21
  refine lv_aload_n hx hb0 dX8_forget_24 rfl (lv_at hl 1 rfl) ?_
  refine z_getR (k2 := 14) X hW zC6 zR_0_0 (by decide) rfl zl_X8_10 dX8_forget_25 ?_
  refine lv_iconst (v := (0 : Int32)) hx hb0 dX8_forget_28 (by decide) ?_
  refine z_putN (ty := .int) X hW zC5 (zFY_12 isY_14) (by decide) rfl zn_X8_198 rfl (by decide +kernel) rfl rfl dX8_forget_29 (fun M_29 H_29 locs_29 e_29 hW => ?_)
  replace hw := hw M_29 e_29
  refine lv_iload_n hx hb0 dX8_forget_32 rfl (lv_at hl 0 rfl) ?_
  exact hret _ ls _ _ a_7 M_29 L dX8_forget_33 rfl hw hW
theorem kX8_forget (l : Launch) (D : va_G) (cy : Nat → ClassId) (ad : Nat → Nat) (hi : zInj ad) : zMi l yX8_forget (.code yX8_forget cX8_forget 2 (some .int) :: zG) rmX8_forget D cy ad [.ref (ad 0)] (wpX8_forget) :=
  zMi_of (by decide +kernel) (Nat.le_of_ble_eq_true rfl) hi (fun X M L post _ hret ls hl hw hW => mX8_forget X post hret M L _ _ ls hw hW hl)
abbrev rmX8_laws : Room := { frames := 1, cells := 0, slots := 0, locals := 21 }
set_option maxRecDepth 20000 in
set_option maxHeartbeats 4000000 in
theorem mX8_laws_32 {p : Program} {l : Launch} {e : Env} {s : State} {m : MethodId} {args : Array Value} {below : List Frame} {meth : Method} {c : Code} {cells slots : Nat} {Q : State → Prop} {D : va_G} {cy : Nat → ClassId} {ad : Nat → Nat} {A : Nat → Prop} (X : zCx p rmX8_laws s m args c cells slots cX8_laws 4 RX8 D cy ad A) (post : Int32 → Mm → Ml → Prop) (hret : zRi p l e rmX8_laws s m args below meth c cells slots Q cX8_laws D cy ad A .int post) (K4 : Mm → Ml → Int32 → Int32 → Int32 → Prop) (hK4 : ∀ (M : Mm) (L : Ml) (v1 : Int32) (v2 : Int32) (v3 : Int32) (H : Heap) (locs : List Loc) (ls : Array Slot), K4 M L v1 v2 v3 → zWd D cy ad A s H locs M L → lv_has ls 4 [(0, .ref (ad 0)), (1, .int v1), (2, .int v2), (3, .int v3)] → W p l e rmX8_laws s m args below meth c H locs cells slots Q (F0 m 4 ls [])) : ∀ (M : Mm) (L : Ml) (v1 : Int32) (v2 : Int32) (v3 : Int32) (H : Heap) (locs : List Loc) (ls : Array Slot), wpX8_laws_32 post K4 M L v1 v2 v3 → zWd D cy ad A s H locs M L → lv_has ls 4 [(0, .ref (ad 0)), (1, .int v1), (2, .int v2), (3, .int v3)] → W p l e rmX8_laws s m args below meth c H locs cells slots Q (F0 m 32 ls []) := by
  have hx := X.1.1; have hb0 := X.1.2.1; have hts := X.1.2.2.2.2
  intro M L v1 v2 v3 H locs ls hw hW hl
  unfold wpX8_laws_32 at hw
  obtain ⟨a_32, e_32⟩ : ∃ y : Int32, y = v3 + (1 : Int32) := ⟨_, rfl⟩
  replace hw := hw a_32 e_32
  refine lv_iinc (v := a_32) (lv' := [(3, .int a_32), (0, .ref (ad 0)), (1, .int v1), (2, .int v2)]) hx hb0 dX8_laws_32 hl (k := 3) rfl (by rw [e_32]; rfl) (by decide) rfl (fun ls hl => ?_)
  refine lv_goto (tgt := 4) hx hb0 dX8_laws_35 (by decide) ?_
  exact hK4 M L v1 v2 a_32 _ _ ls hw hW (lv_sub hl [1, 2, 3, 0] rfl)
set_option maxRecDepth 20000 in
set_option maxHeartbeats 4000000 in
theorem mX8_laws_49 {p : Program} {l : Launch} {e : Env} {s : State} {m : MethodId} {args : Array Value} {below : List Frame} {meth : Method} {c : Code} {cells slots : Nat} {Q : State → Prop} {D : va_G} {cy : Nat → ClassId} {ad : Nat → Nat} {A : Nat → Prop} (X : zCx p rmX8_laws s m args c cells slots cX8_laws 4 RX8 D cy ad A) (post : Int32 → Mm → Ml → Prop) (hret : zRi p l e rmX8_laws s m args below meth c cells slots Q cX8_laws D cy ad A .int post) : ∀ (M : Mm) (L : Ml) (s0 : Int32) (H : Heap) (locs : List Loc) (ls : Array Slot), wpX8_laws_49 post M L s0 → zWd D cy ad A s H locs M L → lv_has ls 4 [] → W p l e rmX8_laws s m args below meth c H locs cells slots Q (F0 m 49 ls [.int s0]) := by
  have hx := X.1.1; have hb0 := X.1.2.1; have hts := X.1.2.2.2.2
  intro M L s0 H locs ls hw hW hl
  unfold wpX8_laws_49 at hw
  exact hret _ ls _ _ s0 M L dX8_laws_49 rfl hw hW
set_option maxRecDepth 20000 in
set_option maxHeartbeats 4000000 in
theorem mX8_laws_4 {p : Program} {l : Launch} {e : Env} {s : State} {m : MethodId} {args : Array Value} {below : List Frame} {meth : Method} {c : Code} {cells slots : Nat} {Q : State → Prop} {D : va_G} {cy : Nat → ClassId} {ad : Nat → Nat} {A : Nat → Prop} (X : zCx p rmX8_laws s m args c cells slots cX8_laws 4 RX8 D cy ad A) (post : Int32 → Mm → Ml → Prop) (hret : zRi p l e rmX8_laws s m args below meth c cells slots Q cX8_laws D cy ad A .int post) : ∀ (j9 : Nat) (M : Mm) (L : Ml) (v1 : Int32) (v2 : Int32) (v3 : Int32) (H : Heap) (locs : List Loc) (ls : Array Slot), wlX8_laws_4 post j9 (M, L, v1, v2, v3) → zWd D cy ad A s H locs M L → lv_has ls 4 [(0, .ref (ad 0)), (1, .int v1), (2, .int v2), (3, .int v3)] → W p l e rmX8_laws s m args below meth c H locs cells slots Q (F0 m 4 ls []) := by
  have hx := X.1.1; have hb0 := X.1.2.1; have hts := X.1.2.2.2.2
  intro j9
  induction j9 with
  | zero => intro M L v1 v2 v3 H locs ls hw; exact hw.elim
  | succ j9 ih =>
    obtain ⟨K4, hKe⟩ : ∃ K : Mm → Ml → Int32 → Int32 → Int32 → Prop, K = fun M L v1 v2 v3 => wlX8_laws_4 post j9 (M, L, v1, v2, v3) := ⟨_, rfl⟩
    have hK4 : ∀ (M : Mm) (L : Ml) (v1 : Int32) (v2 : Int32) (v3 : Int32) (H : Heap) (locs : List Loc) (ls : Array Slot), K4 M L v1 v2 v3 → zWd D cy ad A s H locs M L → lv_has ls 4 [(0, .ref (ad 0)), (1, .int v1), (2, .int v2), (3, .int v3)] → W p l e rmX8_laws s m args below meth c H locs cells slots Q (F0 m 4 ls []) := by intro M L v1 v2 v3 H locs ls hw; rw [hKe] at hw; exact ih M L v1 v2 v3 H locs ls hw
    intro M L v1 v2 v3 H locs ls hw hW hl
    have hw : wpX8_laws_4 post K4 M L v1 v2 v3 := by rw [hKe]; exact hw
    clear ih
    unfold wpX8_laws_4 at hw
    refine lv_iload_n hx hb0 dX8_laws_4 rfl (lv_at hl 3 rfl) ?_
    refine lv_sipush (v := (256 : Int32)) hx hb0 dX8_laws_5 (by decide) ?_
    refine lv_icmp_ge (tgt := 38) hx hb0 dX8_laws_8 (by decide) (fun c_8 => ?_) (fun c_8 => ?_)
    · replace hw := hw.1 c_8
      refine lv_iload_n hx hb0 dX8_laws_38 rfl (lv_at hl 1 rfl) ?_
      refine lv_iconst (v := (-1 : Int32)) hx hb0 dX8_laws_39 (by decide) ?_
      refine lv_icmp_ne (tgt := 47) hx hb0 dX8_laws_40 (by decide) (fun c_40 => ?_) (fun c_40 => ?_)
      · replace hw := hw.1 c_40
        refine lv_bipush (v := (-6 : Int32)) hx hb0 dX8_laws_47 (by decide) ?_
        exact mX8_laws_49 X post hret M L (-6 : Int32) _ _ ls hw hW (lv_sub hl [] rfl)
      · replace hw := hw.2 c_40
        refine lv_iload_n hx hb0 dX8_laws_43 rfl (lv_at hl 2 rfl) ?_
        refine lv_goto (tgt := 49) hx hb0 dX8_laws_44 (by decide) ?_
        exact mX8_laws_49 X post hret M L v2 _ _ ls hw hW (lv_sub hl [] rfl)
    · replace hw := hw.2 c_8
      refine lv_aload_n hx hb0 dX8_laws_11 rfl (lv_at hl 0 rfl) ?_
      refine z_getR (k2 := 14) X hW zC6 zR_0_0 (by decide) rfl zl_X8_10 dX8_laws_12 ?_
      refine lv_iload_n hx hb0 dX8_laws_15 rfl (lv_at hl 3 rfl) ?_
      refine z_VNi X (zOY isY_14) zC5 zc_X7_fits zs_X7_fits zn_X8_201 rfl ⟨rfl, rfl⟩ ⟨Nat.le_of_ble_eq_true rfl, Nat.le_of_ble_eq_true rfl⟩ (kX7_fits l D cy ad X.2.2.2.1 isY_14 v3) hW hw hl.1 rfl rfl (Nat.le_of_ble_eq_true rfl) dX8_laws_16 (fun r_16 M_16 L_16 H_16 locs_16 hw hW => ?_)
      refine lv_if_eq (tgt := 32) hx hb0 dX8_laws_19 (by decide) (fun c_19 => ?_) (fun c_19 => ?_)
      · replace hw := hw.1 c_19
        exact mX8_laws_32 X post hret K4 hK4 M_16 L_16 v1 v2 v3 _ _ ls hw hW (lv_sub hl [0, 1, 2, 3] rfl)
      · replace hw := hw.2 c_19
        refine lv_iload_n hx hb0 dX8_laws_22 rfl (lv_at hl 2 rfl) ?_
        refine lv_iload_n hx hb0 dX8_laws_23 rfl (lv_at hl 1 rfl) ?_
        refine lv_icmp_ne (tgt := 29) hx hb0 dX8_laws_24 (by decide) (fun c_24 => ?_) (fun c_24 => ?_)
        · replace hw := hw.1 c_24
          obtain ⟨a_29, e_29⟩ : ∃ y : Int32, y = v2 + (1 : Int32) := ⟨_, rfl⟩
          replace hw := hw a_29 e_29
          refine lv_iinc (v := a_29) (lv' := [(2, .int a_29), (0, .ref (ad 0)), (1, .int v1), (3, .int v3)]) hx hb0 dX8_laws_29 hl (k := 2) rfl (by rw [e_29]; rfl) (by decide) rfl (fun ls hl => ?_)
          exact mX8_laws_32 X post hret K4 hK4 M_16 L_16 v1 a_29 v3 _ _ ls hw hW (lv_sub hl [1, 2, 0, 3] rfl)
        · replace hw := hw.2 c_24
          refine lv_iload_n hx hb0 dX8_laws_27 rfl (lv_at hl 3 rfl) ?_
          exact hret _ ls _ _ v3 M_16 L_16 dX8_laws_28 rfl hw hW
set_option maxRecDepth 20000 in
set_option maxHeartbeats 4000000 in
theorem mX8_laws {p : Program} {l : Launch} {e : Env} {s : State} {m : MethodId} {args : Array Value} {below : List Frame} {meth : Method} {c : Code} {cells slots : Nat} {Q : State → Prop} {D : va_G} {cy : Nat → ClassId} {ad : Nat → Nat} {A : Nat → Prop} (X : zCx p rmX8_laws s m args c cells slots cX8_laws 4 RX8 D cy ad A) (post : Int32 → Mm → Ml → Prop) (hret : zRi p l e rmX8_laws s m args below meth c cells slots Q cX8_laws D cy ad A .int post) : ∀ (M : Mm) (L : Ml) (x1 : Int32) (H : Heap) (locs : List Loc) (ls : Array Slot), wpX8_laws x1 M L post → zWd D cy ad A s H locs M L → lv_has ls 4 [(0, .ref (ad 0)), (1, .int x1)] → W p l e rmX8_laws s m args below meth c H locs cells slots Q (F0 m 0 ls []) := by
  have hx := X.1.1; have hb0 := X.1.2.1; have hts := X.1.2.2.2.2
  intro M L x1 H locs ls hw hW hl
  unfold wpX8_laws at hw
  refine lv_iconst (v := (0 : Int32)) hx hb0 dX8_laws_0 (by decide) ?_
  refine lv_istore_n (lv' := [(2, .int (0 : Int32)), (0, .ref (ad 0)), (1, .int x1)]) hx hb0 dX8_laws_1 rfl hl (by decide) rfl (fun ls hl => ?_)
  refine lv_iconst (v := (0 : Int32)) hx hb0 dX8_laws_2 (by decide) ?_
  refine lv_istore_n (lv' := [(3, .int (0 : Int32)), (2, .int (0 : Int32)), (0, .ref (ad 0)), (1, .int x1)]) hx hb0 dX8_laws_3 rfl hl (by decide) rfl (fun ls hl => ?_)
  obtain ⟨n_4, hw⟩ := hw
  exact mX8_laws_4 X post hret n_4 M L x1 (0 : Int32) (0 : Int32) _ _ ls hw hW (lv_sub hl [2, 3, 1, 0] rfl)
theorem kX8_laws (l : Launch) (D : va_G) (cy : Nat → ClassId) (ad : Nat → Nat) (hi : zInj ad) (x1 : Int32) : zMi l yX8_laws (.code yX8_laws cX8_laws 4 (some .int) :: zG) rmX8_laws D cy ad [.ref (ad 0), .int x1] (wpX8_laws x1) :=
  zMi_of (by decide +kernel) (Nat.le_of_ble_eq_true rfl) hi (fun X M L post _ hret ls hl hw hW => mX8_laws X post hret M L x1 _ _ ls hw hW hl)
abbrev rmX8_look : Room := { frames := 2, cells := 0, slots := 0, locals := 44 }
set_option maxRecDepth 20000 in
set_option maxHeartbeats 4000000 in
theorem mX8_look_72 {p : Program} {l : Launch} {e : Env} {s : State} {m : MethodId} {args : Array Value} {below : List Frame} {meth : Method} {c : Code} {cells slots : Nat} {Q : State → Prop} {D : va_G} {cy : Nat → ClassId} {ad : Nat → Nat} {A : Nat → Prop} (X : zCx p rmX8_look s m args c cells slots cX8_look 6 RX8 D cy ad A) (post : Int32 → Mm → Ml → Prop) (hret : zRi p l e rmX8_look s m args below meth c cells slots Q cX8_look D cy ad A .int post) (K41 : Mm → Ml → Int32 → Int32 → Int32 → Int32 → Prop) (hK41 : ∀ (M : Mm) (L : Ml) (v1 : Int32) (v2 : Int32) (v3 : Int32) (v4 : Int32) (H : Heap) (locs : List Loc) (ls : Array Slot), K41 M L v1 v2 v3 v4 → zWd D cy ad A s H locs M L → lv_has ls 6 [(0, .ref (ad 0)), (1, .int v1), (2, .int v2), (3, .int v3), (4, .int v4)] → W p l e rmX8_look s m args below meth c H locs cells slots Q (F0 m 41 ls [])) : ∀ (M : Mm) (L : Ml) (v1 : Int32) (v2 : Int32) (v3 : Int32) (v4 : Int32) (H : Heap) (locs : List Loc) (ls : Array Slot), wpX8_look_72 post K41 M L v1 v2 v3 v4 → zWd D cy ad A s H locs M L → lv_has ls 6 [(0, .ref (ad 0)), (1, .int v1), (2, .int v2), (3, .int v3), (4, .int v4)] → W p l e rmX8_look s m args below meth c H locs cells slots Q (F0 m 72 ls []) := by
  have hx := X.1.1; have hb0 := X.1.2.1; have hts := X.1.2.2.2.2
  intro M L v1 v2 v3 v4 H locs ls hw hW hl
  unfold wpX8_look_72 at hw
  obtain ⟨a_72, e_72⟩ : ∃ y : Int32, y = v4 + (1 : Int32) := ⟨_, rfl⟩
  replace hw := hw a_72 e_72
  refine lv_iinc (v := a_72) (lv' := [(4, .int a_72), (0, .ref (ad 0)), (1, .int v1), (2, .int v2), (3, .int v3)]) hx hb0 dX8_look_72 hl (k := 4) rfl (by rw [e_72]; rfl) (by decide) rfl (fun ls hl => ?_)
  refine lv_goto (tgt := 41) hx hb0 dX8_look_75 (by decide) ?_
  exact hK41 M L v1 v2 v3 a_72 _ _ ls hw hW (lv_sub hl [1, 2, 3, 4, 0] rfl)
set_option maxRecDepth 20000 in
set_option maxHeartbeats 4000000 in
theorem mX8_look_87 {p : Program} {l : Launch} {e : Env} {s : State} {m : MethodId} {args : Array Value} {below : List Frame} {meth : Method} {c : Code} {cells slots : Nat} {Q : State → Prop} {D : va_G} {cy : Nat → ClassId} {ad : Nat → Nat} {A : Nat → Prop} (X : zCx p rmX8_look s m args c cells slots cX8_look 6 RX8 D cy ad A) (post : Int32 → Mm → Ml → Prop) (hret : zRi p l e rmX8_look s m args below meth c cells slots Q cX8_look D cy ad A .int post) : ∀ (M : Mm) (L : Ml) (s0 : Int32) (H : Heap) (locs : List Loc) (ls : Array Slot), wpX8_look_87 post M L s0 → zWd D cy ad A s H locs M L → lv_has ls 6 [] → W p l e rmX8_look s m args below meth c H locs cells slots Q (F0 m 87 ls [.int s0]) := by
  have hx := X.1.1; have hb0 := X.1.2.1; have hts := X.1.2.2.2.2
  intro M L s0 H locs ls hw hW hl
  unfold wpX8_look_87 at hw
  exact hret _ ls _ _ s0 M L dX8_look_87 rfl hw hW
set_option maxRecDepth 20000 in
set_option maxHeartbeats 4000000 in
theorem mX8_look_41 {p : Program} {l : Launch} {e : Env} {s : State} {m : MethodId} {args : Array Value} {below : List Frame} {meth : Method} {c : Code} {cells slots : Nat} {Q : State → Prop} {D : va_G} {cy : Nat → ClassId} {ad : Nat → Nat} {A : Nat → Prop} (X : zCx p rmX8_look s m args c cells slots cX8_look 6 RX8 D cy ad A) (post : Int32 → Mm → Ml → Prop) (hret : zRi p l e rmX8_look s m args below meth c cells slots Q cX8_look D cy ad A .int post) : ∀ (j9 : Nat) (M : Mm) (L : Ml) (v1 : Int32) (v2 : Int32) (v3 : Int32) (v4 : Int32) (H : Heap) (locs : List Loc) (ls : Array Slot), wlX8_look_41 post j9 (M, L, v1, v2, v3, v4) → zWd D cy ad A s H locs M L → lv_has ls 6 [(0, .ref (ad 0)), (1, .int v1), (2, .int v2), (3, .int v3), (4, .int v4)] → W p l e rmX8_look s m args below meth c H locs cells slots Q (F0 m 41 ls []) := by
  have hx := X.1.1; have hb0 := X.1.2.1; have hts := X.1.2.2.2.2
  intro j9
  induction j9 with
  | zero => intro M L v1 v2 v3 v4 H locs ls hw; exact hw.elim
  | succ j9 ih =>
    obtain ⟨K41, hKe⟩ : ∃ K : Mm → Ml → Int32 → Int32 → Int32 → Int32 → Prop, K = fun M L v1 v2 v3 v4 => wlX8_look_41 post j9 (M, L, v1, v2, v3, v4) := ⟨_, rfl⟩
    have hK41 : ∀ (M : Mm) (L : Ml) (v1 : Int32) (v2 : Int32) (v3 : Int32) (v4 : Int32) (H : Heap) (locs : List Loc) (ls : Array Slot), K41 M L v1 v2 v3 v4 → zWd D cy ad A s H locs M L → lv_has ls 6 [(0, .ref (ad 0)), (1, .int v1), (2, .int v2), (3, .int v3), (4, .int v4)] → W p l e rmX8_look s m args below meth c H locs cells slots Q (F0 m 41 ls []) := by intro M L v1 v2 v3 v4 H locs ls hw; rw [hKe] at hw; exact ih M L v1 v2 v3 v4 H locs ls hw
    intro M L v1 v2 v3 v4 H locs ls hw hW hl
    have hw : wpX8_look_41 post K41 M L v1 v2 v3 v4 := by rw [hKe]; exact hw
    clear ih
    unfold wpX8_look_41 at hw
    refine lv_iload hx hb0 dX8_look_41 (lv_at hl 4 rfl) ?_
    refine lv_sipush (v := (256 : Int32)) hx hb0 dX8_look_43 (by decide) ?_
    refine lv_icmp_ge (tgt := 78) hx hb0 dX8_look_46 (by decide) (fun c_46 => ?_) (fun c_46 => ?_)
    · replace hw := hw.1 c_46
      refine lv_iload_n hx hb0 dX8_look_78 rfl (lv_at hl 1 rfl) ?_
      refine lv_if_ne (tgt := 86) hx hb0 dX8_look_79 (by decide) (fun c_79 => ?_) (fun c_79 => ?_)
      · replace hw := hw.1 c_79
        refine lv_iload_n hx hb0 dX8_look_86 rfl (lv_at hl 3 rfl) ?_
        exact mX8_look_87 X post hret M L v3 _ _ ls hw hW (lv_sub hl [] rfl)
      · replace hw := hw.2 c_79
        refine lv_iload_n hx hb0 dX8_look_82 rfl (lv_at hl 2 rfl) ?_
        refine lv_goto (tgt := 87) hx hb0 dX8_look_83 (by decide) ?_
        exact mX8_look_87 X post hret M L v2 _ _ ls hw hW (lv_sub hl [] rfl)
    · replace hw := hw.2 c_46
      refine lv_aload_n hx hb0 dX8_look_49 rfl (lv_at hl 0 rfl) ?_
      refine z_getR (k2 := 14) X hW zC6 zR_0_0 (by decide) rfl zl_X8_10 dX8_look_50 ?_
      refine lv_iload hx hb0 dX8_look_53 (lv_at hl 4 rfl) ?_
      refine z_VNi X (zOY isY_14) zC5 zc_X7_lawsLeftBy zs_X7_lawsLeftBy zn_X8_204 rfl ⟨rfl, rfl⟩ ⟨Nat.le_of_ble_eq_true rfl, Nat.le_of_ble_eq_true rfl⟩ (kX7_lawsLeftBy l D cy ad X.2.2.2.1 isY_14 v4) hW hw hl.1 rfl rfl (Nat.le_of_ble_eq_true rfl) dX8_look_55 (fun r_55 M_55 L_55 H_55 locs_55 hw hW => ?_)
      refine lv_istore (lv' := [(5, .int r_55), (0, .ref (ad 0)), (1, .int v1), (2, .int v2), (3, .int v3), (4, .int v4)]) hx hb0 dX8_look_58 hl (by decide) rfl (fun ls hl => ?_)
      refine lv_iload hx hb0 dX8_look_60 (lv_at hl 0 rfl) ?_
      refine lv_iload_n hx hb0 dX8_look_62 rfl (lv_at hl 4 rfl) ?_
      refine lv_icmp_ge (tgt := 72) hx hb0 dX8_look_63 (by decide) (fun c_63 => ?_) (fun c_63 => ?_)
      · replace hw := hw.1 c_63
        exact mX8_look_72 X post hret K41 hK41 M_55 L_55 v1 v2 v3 v4 _ _ ls hw hW (lv_sub hl [1, 2, 3, 4, 5] rfl)
      · replace hw := hw.2 c_63
        refine lv_iload hx hb0 dX8_look_66 (lv_at hl 0 rfl) ?_
        refine lv_istore_n (lv' := [(3, .int r_55), (5, .int r_55), (0, .ref (ad 0)), (1, .int v1), (2, .int v2), (4, .int v4)]) hx hb0 dX8_look_68 rfl hl (by decide) rfl (fun ls hl => ?_)
        refine lv_iload hx hb0 dX8_look_69 (lv_at hl 5 rfl) ?_
        refine lv_istore_n (lv' := [(2, .int v4), (3, .int r_55), (5, .int r_55), (0, .ref (ad 0)), (1, .int v1), (4, .int v4)]) hx hb0 dX8_look_71 rfl hl (by decide) rfl (fun ls hl => ?_)
        exact mX8_look_72 X post hret K41 hK41 M_55 L_55 v1 v4 r_55 v4 _ _ ls hw hW (lv_sub hl [3, 4, 0, 1, 5] rfl)
set_option maxRecDepth 20000 in
set_option maxHeartbeats 4000000 in
theorem mX8_look {p : Program} {l : Launch} {e : Env} {s : State} {m : MethodId} {args : Array Value} {below : List Frame} {meth : Method} {c : Code} {cells slots : Nat} {Q : State → Prop} {D : va_G} {cy : Nat → ClassId} {ad : Nat → Nat} {A : Nat → Prop} (X : zCx p rmX8_look s m args c cells slots cX8_look 6 RX8 D cy ad A) (post : Int32 → Mm → Ml → Prop) (hret : zRi p l e rmX8_look s m args below meth c cells slots Q cX8_look D cy ad A .int post) : ∀ (M : Mm) (L : Ml) (x1 : Int32) (H : Heap) (locs : List Loc) (ls : Array Slot), wpX8_look x1 M L post → zWd D cy ad A s H locs M L → lv_has ls 6 [(0, .ref (ad 0)), (1, .int x1)] → W p l e rmX8_look s m args below meth c H locs cells slots Q (F0 m 0 ls []) := by
  have hx := X.1.1; have hb0 := X.1.2.1; have hts := X.1.2.2.2.2
  intro M L x1 H locs ls hw hW hl
  unfold wpX8_look at hw
  refine lv_iload_n hx hb0 dX8_look_0 rfl (lv_at hl 1 rfl) ?_
  refine lv_iconst (v := (2 : Int32)) hx hb0 dX8_look_1 (by decide) ?_
  refine z_Si X zc_X8_isBelow zt_X8_isBelow zl_X8_59 rfl ⟨rfl, rfl⟩ ⟨Nat.le_of_ble_eq_true rfl, Nat.le_of_ble_eq_true rfl⟩ (kX8_isBelow l D cy ad X.2.2.2.1 x1 (2 : Int32)) hW hw hl.1 rfl rfl (Nat.le_of_ble_eq_true rfl) dX8_look_2 (fun r_2 M_2 L_2 H_2 locs_2 hw hW => ?_)
  refine lv_if_ne (tgt := 11) hx hb0 dX8_look_5 (by decide) (fun c_5 => ?_) (fun c_5 => ?_)
  · replace hw := hw.1 c_5
    refine lv_aload_n hx hb0 dX8_look_11 rfl (lv_at hl 0 rfl) ?_
    refine z_getR (k2 := 14) X hW zC6 zR_0_0 (by decide) rfl zl_X8_10 dX8_look_12 ?_
    refine z_getIN X hW zC5 (zFY_11 isY_14) (by decide) rfl zn_X8_195 dX8_look_15 ?_
    refine lv_aload_n hx hb0 dX8_look_18 rfl (lv_at hl 0 rfl) ?_
    refine z_getR (k2 := 14) X hW zC6 zR_0_0 (by decide) rfl zl_X8_10 dX8_look_19 ?_
    refine z_getIN X hW zC5 (zFY_12 isY_14) (by decide) rfl zn_X8_198 dX8_look_22 ?_
    refine lv_iand hx hb0 dX8_look_25 ?_
    refine lv_if_eq (tgt := 32) hx hb0 dX8_look_26 (by decide) (fun c_26 => ?_) (fun c_26 => ?_)
    · replace hw := hw.1 c_26
      refine lv_iconst (v := (0 : Int32)) hx hb0 dX8_look_32 (by decide) ?_
      refine lv_istore_n (lv' := [(2, .int (0 : Int32)), (0, .ref (ad 0)), (1, .int x1)]) hx hb0 dX8_look_33 rfl hl (by decide) rfl (fun ls hl => ?_)
      refine lv_sipush (v := (257 : Int32)) hx hb0 dX8_look_34 (by decide) ?_
      refine lv_istore_n (lv' := [(3, .int (257 : Int32)), (2, .int (0 : Int32)), (0, .ref (ad 0)), (1, .int x1)]) hx hb0 dX8_look_37 rfl hl (by decide) rfl (fun ls hl => ?_)
      refine lv_iconst (v := (0 : Int32)) hx hb0 dX8_look_38 (by decide) ?_
      refine lv_istore (lv' := [(4, .int (0 : Int32)), (3, .int (257 : Int32)), (2, .int (0 : Int32)), (0, .ref (ad 0)), (1, .int x1)]) hx hb0 dX8_look_39 hl (by decide) rfl (fun ls hl => ?_)
      obtain ⟨n_41, hw⟩ := hw
      exact mX8_look_41 X post hret n_41 M_2 L_2 x1 (0 : Int32) (257 : Int32) (0 : Int32) _ _ ls hw hW (lv_sub hl [3, 4, 2, 1, 0] rfl)
    · replace hw := hw.2 c_26
      refine lv_bipush (v := (-6 : Int32)) hx hb0 dX8_look_29 (by decide) ?_
      exact hret _ ls _ _ (-6 : Int32) M_2 L_2 dX8_look_31 rfl hw hW
  · replace hw := hw.2 c_5
    refine lv_bipush (v := (-2 : Int32)) hx hb0 dX8_look_8 (by decide) ?_
    exact hret _ ls _ _ (-2 : Int32) M_2 L_2 dX8_look_10 rfl hw hW
theorem kX8_look (l : Launch) (D : va_G) (cy : Nat → ClassId) (ad : Nat → Nat) (hi : zInj ad) (x1 : Int32) : zMi l yX8_look (.code yX8_look cX8_look 6 (some .int) :: zG) rmX8_look D cy ad [.ref (ad 0), .int x1] (wpX8_look x1) :=
  zMi_of (by decide +kernel) (Nat.le_of_ble_eq_true rfl) hi (fun X M L post _ hret ls hl hw hW => mX8_look X post hret M L x1 _ _ ls hw hW hl)
abbrev rmX8_gusts : Room := { frames := 2, cells := 0, slots := 0, locals := 52 }
set_option maxRecDepth 20000 in
set_option maxHeartbeats 4000000 in
theorem mX8_gusts_76 {p : Program} {l : Launch} {e : Env} {s : State} {m : MethodId} {args : Array Value} {below : List Frame} {meth : Method} {c : Code} {cells slots : Nat} {Q : State → Prop} {D : va_G} {cy : Nat → ClassId} {ad : Nat → Nat} {A : Nat → Prop} (X : zCx p rmX8_gusts s m args c cells slots cX8_gusts 8 RX8 D cy ad A) (post : Int64 → Mm → Ml → Prop) (hret : zRl p l e rmX8_gusts s m args below meth c cells slots Q cX8_gusts D cy ad A post) : ∀ (M : Mm) (L : Ml) (v1 : Int32) (v2 : Int32) (v3 : Int32) (v4 : Int32) (v5 : Int32) (v6 : Int32) (s0 : Int32) (H : Heap) (locs : List Loc) (ls : Array Slot), wpX8_gusts_76 post M L v1 v2 v3 v4 v5 v6 s0 → zWd D cy ad A s H locs M L → lv_has ls 8 [(0, .ref (ad 0)), (1, .int v1), (2, .int v2), (3, .int v3), (4, .int v4), (5, .int v5), (6, .int v6)] → W p l e rmX8_gusts s m args below meth c H locs cells slots Q (F0 m 76 ls [.int s0]) := by
  have hx := X.1.1; have hb0 := X.1.2.1; have hts := X.1.2.2.2.2
  intro M L v1 v2 v3 v4 v5 v6 s0 H locs ls hw hW hl
  unfold wpX8_gusts_76 at hw
  refine lv_istore (lv' := [(7, .int s0), (0, .ref (ad 0)), (1, .int v1), (2, .int v2), (3, .int v3), (4, .int v4), (5, .int v5), (6, .int v6)]) hx hb0 dX8_gusts_76 hl (by decide) rfl (fun ls hl => ?_)
  refine lv_iload hx hb0 dX8_gusts_78 (lv_at hl 0 rfl) ?_
  refine lv_if_ne (tgt := 87) hx hb0 dX8_gusts_80 (by decide) (fun c_80 => ?_) (fun c_80 => ?_)
  · replace hw := hw.1 c_80
    refine lv_aload_n hx hb0 dX8_gusts_87 rfl (lv_at hl 1 rfl) ?_
    refine z_getR (k2 := 10) X hW zC6 zR_0_6 (by decide) rfl zl_X8_48 dX8_gusts_88 ?_
    refine lv_iload_n hx hb0 dX8_gusts_91 rfl (lv_at hl 2 rfl) ?_
    refine lv_iload_n hx hb0 dX8_gusts_92 rfl (lv_at hl 3 rfl) ?_
    refine lv_iload_n hx hb0 dX8_gusts_93 rfl (lv_at hl 4 rfl) ?_
    refine lv_iload hx hb0 dX8_gusts_94 (lv_at hl 5 rfl) ?_
    refine z_VNv X zO_10 zC2 zc_X4_fall zs_X4_fall zn_X8_209 rfl ⟨rfl, rfl⟩ ⟨Nat.le_of_ble_eq_true rfl, Nat.le_of_ble_eq_true rfl⟩ (kX4_fall l D cy ad X.2.2.2.1 v1 v2 v3 v4) hW hw hl.1 rfl rfl (Nat.le_of_ble_eq_true rfl) dX8_gusts_96 (fun M_96 L_96 H_96 locs_96 hw hW => ?_)
    refine lv_aload_n hx hb0 dX8_gusts_99 rfl (lv_at hl 1 rfl) ?_
    refine z_getR (k2 := 10) X hW zC6 zR_0_6 (by decide) rfl zl_X8_48 dX8_gusts_100 ?_
    refine lv_iload hx hb0 dX8_gusts_103 (lv_at hl 6 rfl) ?_
    refine lv_iload_n hx hb0 dX8_gusts_105 rfl (lv_at hl 3 rfl) ?_
    refine lv_iload hx hb0 dX8_gusts_106 (lv_at hl 7 rfl) ?_
    refine z_VNl X zO_10 zC2 zc_X4_chance zs_X4_chance zn_X8_213 rfl ⟨rfl, rfl⟩ ⟨Nat.le_of_ble_eq_true rfl, Nat.le_of_ble_eq_true rfl⟩ (kX4_chance l D cy ad X.2.2.2.1 v5 v2 v6) hW hw hl.1 rfl rfl (Nat.le_of_ble_eq_true rfl) dX8_gusts_108 (fun r_108 M_108 L_108 H_108 locs_108 hw hW => ?_)
    exact hret _ ls _ _ r_108 M_108 L_108 dX8_gusts_111 hw hW
  · replace hw := hw.2 c_80
    refine lv_ldc2 (v := (-1000000000000000002 : Int64)) hx hb0 X.1.2.2.2.1 (hts _ zk_X8_207) dX8_gusts_83 ?_
    exact hret _ ls _ _ (-1000000000000000002 : Int64) M L dX8_gusts_86 hw hW
set_option maxRecDepth 20000 in
set_option maxHeartbeats 4000000 in
theorem mX8_gusts_75 {p : Program} {l : Launch} {e : Env} {s : State} {m : MethodId} {args : Array Value} {below : List Frame} {meth : Method} {c : Code} {cells slots : Nat} {Q : State → Prop} {D : va_G} {cy : Nat → ClassId} {ad : Nat → Nat} {A : Nat → Prop} (X : zCx p rmX8_gusts s m args c cells slots cX8_gusts 8 RX8 D cy ad A) (post : Int64 → Mm → Ml → Prop) (hret : zRl p l e rmX8_gusts s m args below meth c cells slots Q cX8_gusts D cy ad A post) : ∀ (M : Mm) (L : Ml) (v1 : Int32) (v2 : Int32) (v3 : Int32) (v4 : Int32) (v5 : Int32) (v6 : Int32) (H : Heap) (locs : List Loc) (ls : Array Slot), wpX8_gusts_75 post M L v1 v2 v3 v4 v5 v6 → zWd D cy ad A s H locs M L → lv_has ls 8 [(0, .ref (ad 0)), (1, .int v1), (2, .int v2), (3, .int v3), (4, .int v4), (5, .int v5), (6, .int v6)] → W p l e rmX8_gusts s m args below meth c H locs cells slots Q (F0 m 75 ls []) := by
  have hx := X.1.1; have hb0 := X.1.2.1; have hts := X.1.2.2.2.2
  intro M L v1 v2 v3 v4 v5 v6 H locs ls hw hW hl
  unfold wpX8_gusts_75 at hw
  refine lv_iconst (v := (0 : Int32)) hx hb0 dX8_gusts_75 (by decide) ?_
  exact mX8_gusts_76 X post hret M L v1 v2 v3 v4 v5 v6 (0 : Int32) _ _ ls hw hW (lv_sub hl [0, 1, 2, 3, 4, 5, 6] rfl)
set_option maxRecDepth 20000 in
set_option maxHeartbeats 4000000 in
theorem mX8_gusts_62 {p : Program} {l : Launch} {e : Env} {s : State} {m : MethodId} {args : Array Value} {below : List Frame} {meth : Method} {c : Code} {cells slots : Nat} {Q : State → Prop} {D : va_G} {cy : Nat → ClassId} {ad : Nat → Nat} {A : Nat → Prop} (X : zCx p rmX8_gusts s m args c cells slots cX8_gusts 8 RX8 D cy ad A) (post : Int64 → Mm → Ml → Prop) (hret : zRl p l e rmX8_gusts s m args below meth c cells slots Q cX8_gusts D cy ad A post) : ∀ (M : Mm) (L : Ml) (v1 : Int32) (v2 : Int32) (v3 : Int32) (v4 : Int32) (v5 : Int32) (v6 : Int32) (H : Heap) (locs : List Loc) (ls : Array Slot), wpX8_gusts_62 post M L v1 v2 v3 v4 v5 v6 → zWd D cy ad A s H locs M L → lv_has ls 8 [(0, .ref (ad 0)), (1, .int v1), (2, .int v2), (3, .int v3), (4, .int v4), (5, .int v5), (6, .int v6)] → W p l e rmX8_gusts s m args below meth c H locs cells slots Q (F0 m 62 ls []) := by
  have hx := X.1.1; have hb0 := X.1.2.1; have hts := X.1.2.2.2.2
  intro M L v1 v2 v3 v4 v5 v6 H locs ls hw hW hl
  unfold wpX8_gusts_62 at hw
  refine lv_iload hx hb0 dX8_gusts_62 (lv_at hl 6 rfl) ?_
  refine lv_iconst (v := (2 : Int32)) hx hb0 dX8_gusts_64 (by decide) ?_
  refine z_Si X zc_X8_isBelow zt_X8_isBelow zl_X8_59 rfl ⟨rfl, rfl⟩ ⟨Nat.le_of_ble_eq_true rfl, Nat.le_of_ble_eq_true rfl⟩ (kX8_isBelow l D cy ad X.2.2.2.1 v6 (2 : Int32)) hW hw hl.1 rfl rfl (Nat.le_of_ble_eq_true rfl) dX8_gusts_65 (fun r_65 M_65 L_65 H_65 locs_65 hw hW => ?_)
  refine lv_if_eq (tgt := 75) hx hb0 dX8_gusts_68 (by decide) (fun c_68 => ?_) (fun c_68 => ?_)
  · replace hw := hw.1 c_68
    exact mX8_gusts_75 X post hret M_65 L_65 v1 v2 v3 v4 v5 v6 _ _ ls hw hW (lv_sub hl [0, 1, 2, 3, 4, 5, 6] rfl)
  · replace hw := hw.2 c_68
    refine lv_iconst (v := (1 : Int32)) hx hb0 dX8_gusts_71 (by decide) ?_
    refine lv_goto (tgt := 76) hx hb0 dX8_gusts_72 (by decide) ?_
    exact mX8_gusts_76 X post hret M_65 L_65 v1 v2 v3 v4 v5 v6 (1 : Int32) _ _ ls hw hW (lv_sub hl [0, 1, 2, 3, 4, 5, 6] rfl)
set_option maxRecDepth 20000 in
set_option maxHeartbeats 4000000 in
theorem mX8_gusts {p : Program} {l : Launch} {e : Env} {s : State} {m : MethodId} {args : Array Value} {below : List Frame} {meth : Method} {c : Code} {cells slots : Nat} {Q : State → Prop} {D : va_G} {cy : Nat → ClassId} {ad : Nat → Nat} {A : Nat → Prop} (X : zCx p rmX8_gusts s m args c cells slots cX8_gusts 8 RX8 D cy ad A) (post : Int64 → Mm → Ml → Prop) (hret : zRl p l e rmX8_gusts s m args below meth c cells slots Q cX8_gusts D cy ad A post) : ∀ (M : Mm) (L : Ml) (x1 : Int32) (x2 : Int32) (x3 : Int32) (x4 : Int32) (x5 : Int32) (x6 : Int32) (H : Heap) (locs : List Loc) (ls : Array Slot), wpX8_gusts x1 x2 x3 x4 x5 x6 M L post → zWd D cy ad A s H locs M L → lv_has ls 8 [(0, .ref (ad 0)), (1, .int x1), (2, .int x2), (3, .int x3), (4, .int x4), (5, .int x5), (6, .int x6)] → W p l e rmX8_gusts s m args below meth c H locs cells slots Q (F0 m 0 ls []) := by
  have hx := X.1.1; have hb0 := X.1.2.1; have hts := X.1.2.2.2.2
  intro M L x1 x2 x3 x4 x5 x6 H locs ls hw hW hl
  unfold wpX8_gusts at hw
  refine lv_iload_n hx hb0 dX8_gusts_0 rfl (lv_at hl 1 rfl) ?_
  refine lv_bipush (v := (16 : Int32)) hx hb0 dX8_gusts_1 (by decide) ?_
  refine z_Si X zc_X8_isBelow zt_X8_isBelow zl_X8_59 rfl ⟨rfl, rfl⟩ ⟨Nat.le_of_ble_eq_true rfl, Nat.le_of_ble_eq_true rfl⟩ (kX8_isBelow l D cy ad X.2.2.2.1 x1 (16 : Int32)) hW hw hl.1 rfl rfl (Nat.le_of_ble_eq_true rfl) dX8_gusts_3 (fun r_3 M_3 L_3 H_3 locs_3 hw hW => ?_)
  refine lv_if_eq (tgt := 75) hx hb0 dX8_gusts_6 (by decide) (fun c_6 => ?_) (fun c_6 => ?_)
  · replace hw := hw.1 c_6
    exact mX8_gusts_75 X post hret M_3 L_3 x1 x2 x3 x4 x5 x6 _ _ ls hw hW (lv_sub hl [0, 1, 2, 3, 4, 5, 6] rfl)
  · replace hw := hw.2 c_6
    refine lv_iload_n hx hb0 dX8_gusts_9 rfl (lv_at hl 2 rfl) ?_
    refine lv_bipush (v := (7 : Int32)) hx hb0 dX8_gusts_10 (by decide) ?_
    refine z_Si X zc_X8_isBelow zt_X8_isBelow zl_X8_59 rfl ⟨rfl, rfl⟩ ⟨Nat.le_of_ble_eq_true rfl, Nat.le_of_ble_eq_true rfl⟩ (kX8_isBelow l D cy ad X.2.2.2.1 x2 (7 : Int32)) hW hw hl.1 rfl rfl (Nat.le_of_ble_eq_true rfl) dX8_gusts_12 (fun r_12 M_12 L_12 H_12 locs_12 hw hW => ?_)
    refine lv_if_eq (tgt := 75) hx hb0 dX8_gusts_15 (by decide) (fun c_15 => ?_) (fun c_15 => ?_)
    · replace hw := hw.1 c_15
      exact mX8_gusts_75 X post hret M_12 L_12 x1 x2 x3 x4 x5 x6 _ _ ls hw hW (lv_sub hl [0, 1, 2, 3, 4, 5, 6] rfl)
    · replace hw := hw.2 c_15
      refine lv_iload_n hx hb0 dX8_gusts_18 rfl (lv_at hl 3 rfl) ?_
      refine lv_bipush (v := (11 : Int32)) hx hb0 dX8_gusts_19 (by decide) ?_
      refine z_Si X zc_X8_isBelow zt_X8_isBelow zl_X8_59 rfl ⟨rfl, rfl⟩ ⟨Nat.le_of_ble_eq_true rfl, Nat.le_of_ble_eq_true rfl⟩ (kX8_isBelow l D cy ad X.2.2.2.1 x3 (11 : Int32)) hW hw hl.1 rfl rfl (Nat.le_of_ble_eq_true rfl) dX8_gusts_21 (fun r_21 M_21 L_21 H_21 locs_21 hw hW => ?_)
      refine lv_if_eq (tgt := 75) hx hb0 dX8_gusts_24 (by decide) (fun c_24 => ?_) (fun c_24 => ?_)
      · replace hw := hw.1 c_24
        exact mX8_gusts_75 X post hret M_21 L_21 x1 x2 x3 x4 x5 x6 _ _ ls hw hW (lv_sub hl [0, 1, 2, 3, 4, 5, 6] rfl)
      · replace hw := hw.2 c_24
        refine lv_iload hx hb0 dX8_gusts_27 (lv_at hl 4 rfl) ?_
        refine lv_bipush (v := (11 : Int32)) hx hb0 dX8_gusts_29 (by decide) ?_
        refine z_Si X zc_X8_isBelow zt_X8_isBelow zl_X8_59 rfl ⟨rfl, rfl⟩ ⟨Nat.le_of_ble_eq_true rfl, Nat.le_of_ble_eq_true rfl⟩ (kX8_isBelow l D cy ad X.2.2.2.1 x4 (11 : Int32)) hW hw hl.1 rfl rfl (Nat.le_of_ble_eq_true rfl) dX8_gusts_31 (fun r_31 M_31 L_31 H_31 locs_31 hw hW => ?_)
        refine lv_if_eq (tgt := 75) hx hb0 dX8_gusts_34 (by decide) (fun c_34 => ?_) (fun c_34 => ?_)
        · replace hw := hw.1 c_34
          exact mX8_gusts_75 X post hret M_31 L_31 x1 x2 x3 x4 x5 x6 _ _ ls hw hW (lv_sub hl [0, 1, 2, 3, 4, 5, 6] rfl)
        · replace hw := hw.2 c_34
          refine lv_iload_n hx hb0 dX8_gusts_37 rfl (lv_at hl 3 rfl) ?_
          refine lv_iload hx hb0 dX8_gusts_38 (lv_at hl 4 rfl) ?_
          refine lv_iadd hx hb0 dX8_gusts_40 ?_
          refine lv_bipush (v := (10 : Int32)) hx hb0 dX8_gusts_41 (by decide) ?_
          refine lv_icmp_gt (tgt := 75) hx hb0 dX8_gusts_43 (by decide) (fun c_43 => ?_) (fun c_43 => ?_)
          · replace hw := hw.1 c_43
            exact mX8_gusts_75 X post hret M_31 L_31 x1 x2 x3 x4 x5 x6 _ _ ls hw hW (lv_sub hl [0, 1, 2, 3, 4, 5, 6] rfl)
          · replace hw := hw.2 c_43
            refine lv_iload hx hb0 dX8_gusts_46 (lv_at hl 5 rfl) ?_
            refine lv_iconst (v := (-1 : Int32)) hx hb0 dX8_gusts_48 (by decide) ?_
            refine lv_icmp_eq (tgt := 62) hx hb0 dX8_gusts_49 (by decide) (fun c_49 => ?_) (fun c_49 => ?_)
            · replace hw := hw.1 c_49
              exact mX8_gusts_62 X post hret M_31 L_31 x1 x2 x3 x4 x5 x6 _ _ ls hw hW (lv_sub hl [0, 1, 2, 3, 4, 5, 6] rfl)
            · replace hw := hw.2 c_49
              refine lv_iload hx hb0 dX8_gusts_52 (lv_at hl 5 rfl) ?_
              refine lv_bipush (v := (16 : Int32)) hx hb0 dX8_gusts_54 (by decide) ?_
              refine z_Si X zc_X8_isBelow zt_X8_isBelow zl_X8_59 rfl ⟨rfl, rfl⟩ ⟨Nat.le_of_ble_eq_true rfl, Nat.le_of_ble_eq_true rfl⟩ (kX8_isBelow l D cy ad X.2.2.2.1 x5 (16 : Int32)) hW hw hl.1 rfl rfl (Nat.le_of_ble_eq_true rfl) dX8_gusts_56 (fun r_56 M_56 L_56 H_56 locs_56 hw hW => ?_)
              refine lv_if_eq (tgt := 75) hx hb0 dX8_gusts_59 (by decide) (fun c_59 => ?_) (fun c_59 => ?_)
              · replace hw := hw.1 c_59
                exact mX8_gusts_75 X post hret M_56 L_56 x1 x2 x3 x4 x5 x6 _ _ ls hw hW (lv_sub hl [0, 1, 2, 3, 4, 5, 6] rfl)
              · replace hw := hw.2 c_59
                exact mX8_gusts_62 X post hret M_56 L_56 x1 x2 x3 x4 x5 x6 _ _ ls hw hW (lv_sub hl [0, 1, 2, 3, 4, 5, 6] rfl)
theorem kX8_gusts (l : Launch) (D : va_G) (cy : Nat → ClassId) (ad : Nat → Nat) (hi : zInj ad) (x1 : Int32) (x2 : Int32) (x3 : Int32) (x4 : Int32) (x5 : Int32) (x6 : Int32) : zMl l yX8_gusts (.code yX8_gusts cX8_gusts 8 (some .long) :: zG) rmX8_gusts D cy ad [.ref (ad 0), .int x1, .int x2, .int x3, .int x4, .int x5, .int x6] (wpX8_gusts x1 x2 x3 x4 x5 x6) :=
  zMl_of (by decide +kernel) (Nat.le_of_ble_eq_true rfl) hi (fun X M L post _ hret ls hl hw hW => mX8_gusts X post hret M L x1 x2 x3 x4 x5 x6 _ _ ls hw hW hl)
abbrev rmX8_spoon : Room := { frames := 2, cells := 0, slots := 0, locals := 44 }
set_option maxRecDepth 20000 in
set_option maxHeartbeats 4000000 in
theorem mX8_spoon_17 {p : Program} {l : Launch} {e : Env} {s : State} {m : MethodId} {args : Array Value} {below : List Frame} {meth : Method} {c : Code} {cells slots : Nat} {Q : State → Prop} {D : va_G} {cy : Nat → ClassId} {ad : Nat → Nat} {A : Nat → Prop} (X : zCx p rmX8_spoon s m args c cells slots cX8_spoon 4 RX8 D cy ad A) (post : Int32 → Mm → Ml → Prop) (hret : zRi p l e rmX8_spoon s m args below meth c cells slots Q cX8_spoon D cy ad A .int post) : ∀ (M : Mm) (L : Ml) (H : Heap) (locs : List Loc) (ls : Array Slot), wpX8_spoon_17 post M L → zWd D cy ad A s H locs M L → lv_has ls 4 [] → W p l e rmX8_spoon s m args below meth c H locs cells slots Q (F0 m 17 ls []) := by
  have hx := X.1.1; have hb0 := X.1.2.1; have hts := X.1.2.2.2.2
  intro M L H locs ls hw hW hl
  unfold wpX8_spoon_17 at hw
  refine lv_bipush (v := (-2 : Int32)) hx hb0 dX8_spoon_17 (by decide) ?_
  exact hret _ ls _ _ (-2 : Int32) M L dX8_spoon_19 rfl hw hW
set_option maxRecDepth 20000 in
set_option maxHeartbeats 4000000 in
theorem mX8_spoon_45 {p : Program} {l : Launch} {e : Env} {s : State} {m : MethodId} {args : Array Value} {below : List Frame} {meth : Method} {c : Code} {cells slots : Nat} {Q : State → Prop} {D : va_G} {cy : Nat → ClassId} {ad : Nat → Nat} {A : Nat → Prop} (X : zCx p rmX8_spoon s m args c cells slots cX8_spoon 4 RX8 D cy ad A) (post : Int32 → Mm → Ml → Prop) (hret : zRi p l e rmX8_spoon s m args below meth c cells slots Q cX8_spoon D cy ad A .int post) : ∀ (M : Mm) (L : Ml) (s0 : Int32) (H : Heap) (locs : List Loc) (ls : Array Slot), wpX8_spoon_45 post M L s0 → zWd D cy ad A s H locs M L → lv_has ls 4 [] → W p l e rmX8_spoon s m args below meth c H locs cells slots Q (F0 m 45 ls [.int s0]) := by
  have hx := X.1.1; have hb0 := X.1.2.1; have hts := X.1.2.2.2.2
  intro M L s0 H locs ls hw hW hl
  unfold wpX8_spoon_45 at hw
  exact hret _ ls _ _ s0 M L dX8_spoon_45 rfl hw hW
set_option maxRecDepth 20000 in
set_option maxHeartbeats 4000000 in
theorem mX8_spoon {p : Program} {l : Launch} {e : Env} {s : State} {m : MethodId} {args : Array Value} {below : List Frame} {meth : Method} {c : Code} {cells slots : Nat} {Q : State → Prop} {D : va_G} {cy : Nat → ClassId} {ad : Nat → Nat} {A : Nat → Prop} (X : zCx p rmX8_spoon s m args c cells slots cX8_spoon 4 RX8 D cy ad A) (post : Int32 → Mm → Ml → Prop) (hret : zRi p l e rmX8_spoon s m args below meth c cells slots Q cX8_spoon D cy ad A .int post) : ∀ (M : Mm) (L : Ml) (x1 : Int32) (x2 : Int32) (H : Heap) (locs : List Loc) (ls : Array Slot), wpX8_spoon x1 x2 M L post → zWd D cy ad A s H locs M L → lv_has ls 4 [(0, .ref (ad 0)), (1, .int x1), (2, .int x2)] → W p l e rmX8_spoon s m args below meth c H locs cells slots Q (F0 m 0 ls []) := by
  have hx := X.1.1; have hb0 := X.1.2.1; have hts := X.1.2.2.2.2
  intro M L x1 x2 H locs ls hw hW hl
  unfold wpX8_spoon at hw
  refine lv_iload_n hx hb0 dX8_spoon_0 rfl (lv_at hl 1 rfl) ?_
  refine lv_bipush (v := (61 : Int32)) hx hb0 dX8_spoon_1 (by decide) ?_
  refine z_Si X zc_X8_isBelow zt_X8_isBelow zl_X8_59 rfl ⟨rfl, rfl⟩ ⟨Nat.le_of_ble_eq_true rfl, Nat.le_of_ble_eq_true rfl⟩ (kX8_isBelow l D cy ad X.2.2.2.1 x1 (61 : Int32)) hW hw hl.1 rfl rfl (Nat.le_of_ble_eq_true rfl) dX8_spoon_3 (fun r_3 M_3 L_3 H_3 locs_3 hw hW => ?_)
  refine lv_if_eq (tgt := 17) hx hb0 dX8_spoon_6 (by decide) (fun c_6 => ?_) (fun c_6 => ?_)
  · replace hw := hw.1 c_6
    exact mX8_spoon_17 X post hret M_3 L_3 _ _ ls hw hW (lv_sub hl [] rfl)
  · replace hw := hw.2 c_6
    refine lv_iload_n hx hb0 dX8_spoon_9 rfl (lv_at hl 2 rfl) ?_
    refine lv_iconst (v := (2 : Int32)) hx hb0 dX8_spoon_10 (by decide) ?_
    refine z_Si X zc_X8_isBelow zt_X8_isBelow zl_X8_59 rfl ⟨rfl, rfl⟩ ⟨Nat.le_of_ble_eq_true rfl, Nat.le_of_ble_eq_true rfl⟩ (kX8_isBelow l D cy ad X.2.2.2.1 x2 (2 : Int32)) hW hw hl.1 rfl rfl (Nat.le_of_ble_eq_true rfl) dX8_spoon_11 (fun r_11 M_11 L_11 H_11 locs_11 hw hW => ?_)
    refine lv_if_ne (tgt := 20) hx hb0 dX8_spoon_14 (by decide) (fun c_14 => ?_) (fun c_14 => ?_)
    · replace hw := hw.1 c_14
      refine lv_aload_n hx hb0 dX8_spoon_20 rfl (lv_at hl 0 rfl) ?_
      refine z_getR (k2 := 12) X hW zC6 zR_0_7 (by decide) rfl zl_X8_55 dX8_spoon_21 ?_
      refine lv_iload_n hx hb0 dX8_spoon_24 rfl (lv_at hl 1 rfl) ?_
      refine lv_iconst (v := (0 : Int32)) hx hb0 dX8_spoon_25 (by decide) ?_
      refine z_VNi X zO_12 zC4 zc_X6_winningTake zs_X6_winningTake zn_X8_217 rfl ⟨rfl, rfl⟩ ⟨Nat.le_of_ble_eq_true rfl, Nat.le_of_ble_eq_true rfl⟩ (kX6_winningTake l D cy ad X.2.2.2.1 x1 (0 : Int32)) hW hw hl.1 rfl rfl (Nat.le_of_ble_eq_true rfl) dX8_spoon_26 (fun r_26 M_26 L_26 H_26 locs_26 hw hW => ?_)
      refine lv_istore_n (lv' := [(3, .int r_26), (0, .ref (ad 0)), (1, .int x1), (2, .int x2)]) hx hb0 dX8_spoon_29 rfl hl (by decide) rfl (fun ls hl => ?_)
      refine lv_iload_n hx hb0 dX8_spoon_30 rfl (lv_at hl 3 rfl) ?_
      refine lv_if_ne (tgt := 46) hx hb0 dX8_spoon_31 (by decide) (fun c_31 => ?_) (fun c_31 => ?_)
      · replace hw := hw.1 c_31
        refine lv_iload_n hx hb0 dX8_spoon_46 rfl (lv_at hl 0 rfl) ?_
        exact hret _ ls _ _ r_26 M_26 L_26 dX8_spoon_47 rfl hw hW
      · replace hw := hw.2 c_31
        refine lv_iload_n hx hb0 dX8_spoon_34 rfl (lv_at hl 0 rfl) ?_
        refine lv_bipush (v := (-6 : Int32)) hx hb0 dX8_spoon_35 (by decide) ?_
        refine lv_icmp_ne (tgt := 44) hx hb0 dX8_spoon_37 (by decide) (fun c_37 => ?_) (fun c_37 => ?_)
        · replace hw := hw.1 c_37
          refine lv_iconst (v := (1 : Int32)) hx hb0 dX8_spoon_44 (by decide) ?_
          exact mX8_spoon_45 X post hret M_26 L_26 (1 : Int32) _ _ ls hw hW (lv_sub hl [] rfl)
        · replace hw := hw.2 c_37
          refine lv_iconst (v := (0 : Int32)) hx hb0 dX8_spoon_40 (by decide) ?_
          refine lv_goto (tgt := 45) hx hb0 dX8_spoon_41 (by decide) ?_
          exact mX8_spoon_45 X post hret M_26 L_26 (0 : Int32) _ _ ls hw hW (lv_sub hl [] rfl)
    · replace hw := hw.2 c_14
      exact mX8_spoon_17 X post hret M_11 L_11 _ _ ls hw hW (lv_sub hl [] rfl)
theorem kX8_spoon (l : Launch) (D : va_G) (cy : Nat → ClassId) (ad : Nat → Nat) (hi : zInj ad) (x1 : Int32) (x2 : Int32) : zMi l yX8_spoon (.code yX8_spoon cX8_spoon 4 (some .int) :: zG) rmX8_spoon D cy ad [.ref (ad 0), .int x1, .int x2] (wpX8_spoon x1 x2) :=
  zMi_of (by decide +kernel) (Nat.le_of_ble_eq_true rfl) hi (fun X M L post _ hret ls hl hw hW => mX8_spoon X post hret M L x1 x2 _ _ ls hw hW hl)
abbrev rmX8_year : Room := { frames := 5, cells := 0, slots := 0, locals := 128 }
set_option maxRecDepth 20000 in
set_option maxHeartbeats 4000000 in
theorem mX8_year_29 {p : Program} {l : Launch} {e : Env} {s : State} {m : MethodId} {args : Array Value} {below : List Frame} {meth : Method} {c : Code} {cells slots : Nat} {Q : State → Prop} {D : va_G} {cy : Nat → ClassId} {ad : Nat → Nat} {A : Nat → Prop} (X : zCx p rmX8_year s m args c cells slots cX8_year 4 RX8 D cy ad A) (post : Int32 → Mm → Ml → Prop) (hret : zRi p l e rmX8_year s m args below meth c cells slots Q cX8_year D cy ad A .int post) : ∀ (M : Mm) (L : Ml) (H : Heap) (locs : List Loc) (ls : Array Slot), wpX8_year_29 post M L → zWd D cy ad A s H locs M L → lv_has ls 4 [] → W p l e rmX8_year s m args below meth c H locs cells slots Q (F0 m 29 ls []) := by
  have hx := X.1.1; have hb0 := X.1.2.1; have hts := X.1.2.2.2.2
  intro M L H locs ls hw hW hl
  unfold wpX8_year_29 at hw
  refine lv_bipush (v := (-2 : Int32)) hx hb0 dX8_year_29 (by decide) ?_
  exact hret _ ls _ _ (-2 : Int32) M L dX8_year_31 rfl hw hW
set_option maxRecDepth 20000 in
set_option maxHeartbeats 4000000 in
theorem mX8_year {p : Program} {l : Launch} {e : Env} {s : State} {m : MethodId} {args : Array Value} {below : List Frame} {meth : Method} {c : Code} {cells slots : Nat} {Q : State → Prop} {D : va_G} {cy : Nat → ClassId} {ad : Nat → Nat} {A : Nat → Prop} (X : zCx p rmX8_year s m args c cells slots cX8_year 4 RX8 D cy ad A) (post : Int32 → Mm → Ml → Prop) (hret : zRi p l e rmX8_year s m args below meth c cells slots Q cX8_year D cy ad A .int post) : ∀ (M : Mm) (L : Ml) (x1 : Int32) (x2 : Int32) (x3 : Int32) (H : Heap) (locs : List Loc) (ls : Array Slot), wpX8_year x1 x2 x3 M L post → zWd D cy ad A s H locs M L → lv_has ls 4 [(0, .ref (ad 0)), (1, .int x1), (2, .int x2), (3, .int x3)] → W p l e rmX8_year s m args below meth c H locs cells slots Q (F0 m 0 ls []) := by
  have hx := X.1.1; have hb0 := X.1.2.1; have hts := X.1.2.2.2.2
  intro M L x1 x2 x3 H locs ls hw hW hl
  unfold wpX8_year at hw
  refine lv_iload_n hx hb0 dX8_year_0 rfl (lv_at hl 1 rfl) ?_
  refine lv_sipush (v := (10000 : Int32)) hx hb0 dX8_year_1 (by decide) ?_
  refine z_Si X zc_X8_isBelow zt_X8_isBelow zl_X8_59 rfl ⟨rfl, rfl⟩ ⟨Nat.le_of_ble_eq_true rfl, Nat.le_of_ble_eq_true rfl⟩ (kX8_isBelow l D cy ad X.2.2.2.1 x1 (10000 : Int32)) hW hw hl.1 rfl rfl (Nat.le_of_ble_eq_true rfl) dX8_year_4 (fun r_4 M_4 L_4 H_4 locs_4 hw hW => ?_)
  refine lv_if_eq (tgt := 29) hx hb0 dX8_year_7 (by decide) (fun c_7 => ?_) (fun c_7 => ?_)
  · replace hw := hw.1 c_7
    exact mX8_year_29 X post hret M_4 L_4 _ _ ls hw hW (lv_sub hl [] rfl)
  · replace hw := hw.2 c_7
    refine lv_iload_n hx hb0 dX8_year_10 rfl (lv_at hl 2 rfl) ?_
    refine lv_iconst (v := (1 : Int32)) hx hb0 dX8_year_11 (by decide) ?_
    refine lv_icmp_lt (tgt := 29) hx hb0 dX8_year_12 (by decide) (fun c_12 => ?_) (fun c_12 => ?_)
    · replace hw := hw.1 c_12
      exact mX8_year_29 X post hret M_4 L_4 _ _ ls hw hW (lv_sub hl [] rfl)
    · replace hw := hw.2 c_12
      refine lv_iload_n hx hb0 dX8_year_15 rfl (lv_at hl 2 rfl) ?_
      refine lv_bipush (v := (99 : Int32)) hx hb0 dX8_year_16 (by decide) ?_
      refine lv_icmp_gt (tgt := 29) hx hb0 dX8_year_18 (by decide) (fun c_18 => ?_) (fun c_18 => ?_)
      · replace hw := hw.1 c_18
        exact mX8_year_29 X post hret M_4 L_4 _ _ ls hw hW (lv_sub hl [] rfl)
      · replace hw := hw.2 c_18
        refine lv_iload_n hx hb0 dX8_year_21 rfl (lv_at hl 3 rfl) ?_
        refine lv_iconst (v := (3 : Int32)) hx hb0 dX8_year_22 (by decide) ?_
        refine z_Si X zc_X8_isBelow zt_X8_isBelow zl_X8_59 rfl ⟨rfl, rfl⟩ ⟨Nat.le_of_ble_eq_true rfl, Nat.le_of_ble_eq_true rfl⟩ (kX8_isBelow l D cy ad X.2.2.2.1 x3 (3 : Int32)) hW hw hl.1 rfl rfl (Nat.le_of_ble_eq_true rfl) dX8_year_23 (fun r_23 M_23 L_23 H_23 locs_23 hw hW => ?_)
        refine lv_if_ne (tgt := 32) hx hb0 dX8_year_26 (by decide) (fun c_26 => ?_) (fun c_26 => ?_)
        · replace hw := hw.1 c_26
          refine lv_aload_n hx hb0 dX8_year_32 rfl (lv_at hl 0 rfl) ?_
          refine z_getR (k2 := 6) X hW zC6 zR_0_4 (by decide) rfl zl_X8_34 dX8_year_33 ?_
          refine lv_aload_n hx hb0 dX8_year_36 rfl (lv_at hl 0 rfl) ?_
          refine z_getR (k2 := 14) X hW zC6 zR_0_0 (by decide) rfl zl_X8_10 dX8_year_37 ?_
          refine lv_iload_n hx hb0 dX8_year_40 rfl (lv_at hl 1 rfl) ?_
          refine lv_iload_n hx hb0 dX8_year_41 rfl (lv_at hl 2 rfl) ?_
          refine z_VNv X zO_6 zC1 zc_X2_dreamYear zs_X2_dreamYear zn_X8_220 rfl ⟨rfl, rfl⟩ ⟨Nat.le_of_ble_eq_true rfl, Nat.le_of_ble_eq_true rfl⟩ (kX2_dreamYear l D cy ad X.2.2.2.1 isY_14 x1 x2) hW hw hl.1 rfl rfl (Nat.le_of_ble_eq_true rfl) dX8_year_42 (fun M_42 L_42 H_42 locs_42 hw hW => ?_)
          refine lv_iload_n hx hb0 dX8_year_45 rfl (lv_at hl 3 rfl) ?_
          by_cases c_46_0 : x3 = (0 : Int32)
          · replace hw := hw.1 c_46_0
            refine lv_lookup (tgt := 72) (off := 26) hx hb0 dX8_year_46 rfl (by rw [c_46_0]; rfl) (by decide) ?_
            refine lv_aload_n hx hb0 dX8_year_72 rfl (lv_at hl 0 rfl) ?_
            refine z_getR (k2 := 6) X hW zC6 zR_0_4 (by decide) rfl zl_X8_34 dX8_year_73 ?_
            refine z_getRN (k2 := 35) X hW zC1 zR_6_0 (by decide) rfl zn_X8_119 dX8_year_76 ?_
            refine z_VNi X (zOY isY_35) zC5 zc_X7_delivered zs_X7_delivered zn_X8_141 rfl ⟨rfl, rfl⟩ ⟨Nat.le_of_ble_eq_true rfl, Nat.le_of_ble_eq_true rfl⟩ (kX7_delivered l D cy ad X.2.2.2.1 isY_35) hW hw hl.1 rfl rfl (Nat.le_of_ble_eq_true rfl) dX8_year_79 (fun r_79 M_79 L_79 H_79 locs_79 hw hW => ?_)
            refine z_Si X zc_J6_bitCount_0f7a4 zt_J6_bitCount_0f7a4 zl_X8_70 rfl ⟨rfl, rfl⟩ ⟨Nat.le_of_ble_eq_true rfl, Nat.le_of_ble_eq_true rfl⟩ (kJ6_bitCount_0f7a4 l D cy ad X.2.2.2.1 r_79) hW hw hl.1 rfl rfl (Nat.le_of_ble_eq_true rfl) dX8_year_82 (fun r_82 M_82 L_82 H_82 locs_82 hw hW => ?_)
            exact hret _ ls _ _ r_82 M_82 L_82 dX8_year_85 rfl hw hW
          · replace hw := hw.2 c_46_0
            by_cases c_46_1 : x3 = (1 : Int32)
            · replace hw := hw.1 c_46_1
              refine lv_lookup (tgt := 86) (off := 40) hx hb0 dX8_year_46 rfl (by rw [c_46_1]; rfl) (by decide) ?_
              refine lv_aload_n hx hb0 dX8_year_86 rfl (lv_at hl 0 rfl) ?_
              refine z_getR (k2 := 6) X hW zC6 zR_0_4 (by decide) rfl zl_X8_34 dX8_year_87 ?_
              refine z_getRN (k2 := 35) X hW zC1 zR_6_0 (by decide) rfl zn_X8_119 dX8_year_90 ?_
              refine z_VNi X (zOY isY_35) zC5 zc_X7_inRiver zs_X7_inRiver zn_X8_147 rfl ⟨rfl, rfl⟩ ⟨Nat.le_of_ble_eq_true rfl, Nat.le_of_ble_eq_true rfl⟩ (kX7_inRiver l D cy ad X.2.2.2.1 isY_35) hW hw hl.1 rfl rfl (Nat.le_of_ble_eq_true rfl) dX8_year_93 (fun r_93 M_93 L_93 H_93 locs_93 hw hW => ?_)
              refine z_Si X zc_J6_bitCount_0f7a4 zt_J6_bitCount_0f7a4 zl_X8_70 rfl ⟨rfl, rfl⟩ ⟨Nat.le_of_ble_eq_true rfl, Nat.le_of_ble_eq_true rfl⟩ (kJ6_bitCount_0f7a4 l D cy ad X.2.2.2.1 r_93) hW hw hl.1 rfl rfl (Nat.le_of_ble_eq_true rfl) dX8_year_96 (fun r_96 M_96 L_96 H_96 locs_96 hw hW => ?_)
              exact hret _ ls _ _ r_96 M_96 L_96 dX8_year_99 rfl hw hW
            · replace hw := hw.2 c_46_1
              refine lv_lookup (tgt := 100) (off := 54) hx hb0 dX8_year_46 rfl (by show Op.lookupswitch.offset [(0, 26), (1, 40)] 54 x3.toInt = _; rw [lv_osw c_46_0 (by decide), lv_osw c_46_1 (by decide)]; rfl) (by decide) ?_
              refine lv_aload_n hx hb0 dX8_year_100 rfl (lv_at hl 0 rfl) ?_
              refine z_getR (k2 := 6) X hW zC6 zR_0_4 (by decide) rfl zl_X8_34 dX8_year_101 ?_
              refine z_getRN (k2 := 35) X hW zC1 zR_6_0 (by decide) rfl zn_X8_119 dX8_year_104 ?_
              refine z_VNi X (zOY isY_35) zC5 zc_X7_falling zs_X7_falling zn_X8_224 rfl ⟨rfl, rfl⟩ ⟨Nat.le_of_ble_eq_true rfl, Nat.le_of_ble_eq_true rfl⟩ (kX7_falling l D cy ad X.2.2.2.1 isY_35) hW hw hl.1 rfl rfl (Nat.le_of_ble_eq_true rfl) dX8_year_107 (fun r_107 M_107 L_107 H_107 locs_107 hw hW => ?_)
              refine z_Si X zc_J6_bitCount_0f7a4 zt_J6_bitCount_0f7a4 zl_X8_70 rfl ⟨rfl, rfl⟩ ⟨Nat.le_of_ble_eq_true rfl, Nat.le_of_ble_eq_true rfl⟩ (kJ6_bitCount_0f7a4 l D cy ad X.2.2.2.1 r_107) hW hw hl.1 rfl rfl (Nat.le_of_ble_eq_true rfl) dX8_year_110 (fun r_110 M_110 L_110 H_110 locs_110 hw hW => ?_)
              exact hret _ ls _ _ r_110 M_110 L_110 dX8_year_113 rfl hw hW
        · replace hw := hw.2 c_26
          exact mX8_year_29 X post hret M_23 L_23 _ _ ls hw hW (lv_sub hl [] rfl)
theorem kX8_year (l : Launch) (D : va_G) (cy : Nat → ClassId) (ad : Nat → Nat) (hi : zInj ad) (x1 : Int32) (x2 : Int32) (x3 : Int32) : zMi l yX8_year (.code yX8_year cX8_year 4 (some .int) :: zG) rmX8_year D cy ad [.ref (ad 0), .int x1, .int x2, .int x3] (wpX8_year x1 x2 x3) :=
  zMi_of (by decide +kernel) (Nat.le_of_ble_eq_true rfl) hi (fun X M L post _ hret ls hl hw hW => mX8_year X post hret M L x1 x2 x3 _ _ ls hw hW hl)
abbrev rmX8_image : Room := { frames := 2, cells := 0, slots := 0, locals := 101 }
set_option maxRecDepth 20000 in
set_option maxHeartbeats 4000000 in
theorem mX8_image {p : Program} {l : Launch} {e : Env} {s : State} {m : MethodId} {args : Array Value} {below : List Frame} {meth : Method} {c : Code} {cells slots : Nat} {Q : State → Prop} {D : va_G} {cy : Nat → ClassId} {ad : Nat → Nat} {A : Nat → Prop} (X : zCx p rmX8_image s m args c cells slots cX8_image 2 RX8 D cy ad A) (post : Int32 → Mm → Ml → Prop) (hret : zRi p l e rmX8_image s m args below meth c cells slots Q cX8_image D cy ad A .int post) : ∀ (M : Mm) (L : Ml) (x1 : Int32) (H : Heap) (locs : List Loc) (ls : Array Slot), wpX8_image x1 M L post → zWd D cy ad A s H locs M L → lv_has ls 2 [(0, .ref (ad 0)), (1, .int x1)] → W p l e rmX8_image s m args below meth c H locs cells slots Q (F0 m 0 ls []) := by
  have hx := X.1.1; have hb0 := X.1.2.1; have hts := X.1.2.2.2.2
  intro M L x1 H locs ls hw hW hl
  unfold wpX8_image at hw
  refine lv_iload_n hx hb0 dX8_image_0 rfl (lv_at hl 1 rfl) ?_
  refine lv_iconst (v := (2 : Int32)) hx hb0 dX8_image_1 (by decide) ?_
  refine z_Si X zc_X8_isBelow zt_X8_isBelow zl_X8_59 rfl ⟨rfl, rfl⟩ ⟨Nat.le_of_ble_eq_true rfl, Nat.le_of_ble_eq_true rfl⟩ (kX8_isBelow l D cy ad X.2.2.2.1 x1 (2 : Int32)) hW hw hl.1 rfl rfl (Nat.le_of_ble_eq_true rfl) dX8_image_2 (fun r_2 M_2 L_2 H_2 locs_2 hw hW => ?_)
  refine lv_if_ne (tgt := 11) hx hb0 dX8_image_5 (by decide) (fun c_5 => ?_) (fun c_5 => ?_)
  · replace hw := hw.1 c_5
    refine lv_aload_n hx hb0 dX8_image_11 rfl (lv_at hl 0 rfl) ?_
    refine z_getR (k2 := 1) X hW zC6 zR_0_1 (by decide) rfl zl_X8_16 dX8_image_12 ?_
    refine lv_iload_n hx hb0 dX8_image_15 rfl (lv_at hl 1 rfl) ?_
    obtain ⟨g_16, hw⟩ := hw
    refine z_aald X hW g_16 dX8_image_16 ?_
    refine lv_aload_n hx hb0 dX8_image_17 rfl (lv_at hl 0 rfl) ?_
    refine z_getR (k2 := 14) X hW zC6 zR_0_0 (by decide) rfl zl_X8_10 dX8_image_18 ?_
    refine z_VNv X (zOY (isY_z x1.toNatClampNeg)) zC5 zc_X7_copy zs_X7_copy zn_X8_150 rfl ⟨rfl, rfl⟩ ⟨Nat.le_of_ble_eq_true rfl, Nat.le_of_ble_eq_true rfl⟩ (kX7_copy l D cy ad X.2.2.2.1 (isY_z x1.toNatClampNeg) isY_14) hW hw hl.1 rfl rfl (Nat.le_of_ble_eq_true rfl) dX8_image_21 (fun M_21 L_21 H_21 locs_21 hw hW => ?_)
    refine lv_aload_n hx hb0 dX8_image_24 rfl (lv_at hl 0 rfl) ?_
    refine lv_dup hx hb0 dX8_image_25 rfl ?_
    refine z_getI X hW zC6 zF_0_2 (by decide) rfl zl_X8_20 dX8_image_26 ?_
    refine lv_iconst (v := (1 : Int32)) hx hb0 dX8_image_29 (by decide) ?_
    refine lv_iload_n hx hb0 dX8_image_30 rfl (lv_at hl 1 rfl) ?_
    refine lv_ishl hx hb0 dX8_image_31 ?_
    refine lv_ior hx hb0 dX8_image_32 ?_
    refine z_put (ty := .int) X hW zC6 zF_0_2 (by decide) rfl zl_X8_20 rfl (by decide +kernel) rfl rfl dX8_image_33 (fun M_33 H_33 locs_33 e_33 hW => ?_)
    replace hw := hw M_33 e_33
    refine lv_iconst (v := (1 : Int32)) hx hb0 dX8_image_36 (by decide) ?_
    exact hret _ ls _ _ (1 : Int32) M_33 L_21 dX8_image_37 rfl hw hW
  · replace hw := hw.2 c_5
    refine lv_bipush (v := (-2 : Int32)) hx hb0 dX8_image_8 (by decide) ?_
    exact hret _ ls _ _ (-2 : Int32) M_2 L_2 dX8_image_10 rfl hw hW
theorem kX8_image (l : Launch) (D : va_G) (cy : Nat → ClassId) (ad : Nat → Nat) (hi : zInj ad) (x1 : Int32) : zMi l yX8_image (.code yX8_image cX8_image 2 (some .int) :: zG) rmX8_image D cy ad [.ref (ad 0), .int x1] (wpX8_image x1) :=
  zMi_of (by decide +kernel) (Nat.le_of_ble_eq_true rfl) hi (fun X M L post _ hret ls hl hw hW => mX8_image X post hret M L x1 _ _ ls hw hW hl)
abbrev rmX8_restore : Room := { frames := 2, cells := 0, slots := 0, locals := 101 }
set_option maxRecDepth 20000 in
set_option maxHeartbeats 4000000 in
theorem mX8_restore {p : Program} {l : Launch} {e : Env} {s : State} {m : MethodId} {args : Array Value} {below : List Frame} {meth : Method} {c : Code} {cells slots : Nat} {Q : State → Prop} {D : va_G} {cy : Nat → ClassId} {ad : Nat → Nat} {A : Nat → Prop} (X : zCx p rmX8_restore s m args c cells slots cX8_restore 2 RX8 D cy ad A) (post : Int32 → Mm → Ml → Prop) (hret : zRi p l e rmX8_restore s m args below meth c cells slots Q cX8_restore D cy ad A .int post) : ∀ (M : Mm) (L : Ml) (x1 : Int32) (H : Heap) (locs : List Loc) (ls : Array Slot), wpX8_restore x1 M L post → zWd D cy ad A s H locs M L → lv_has ls 2 [(0, .ref (ad 0)), (1, .int x1)] → W p l e rmX8_restore s m args below meth c H locs cells slots Q (F0 m 0 ls []) := by
  have hx := X.1.1; have hb0 := X.1.2.1; have hts := X.1.2.2.2.2
  intro M L x1 H locs ls hw hW hl
  unfold wpX8_restore at hw
  refine lv_iload_n hx hb0 dX8_restore_0 rfl (lv_at hl 1 rfl) ?_
  refine lv_iconst (v := (2 : Int32)) hx hb0 dX8_restore_1 (by decide) ?_
  refine z_Si X zc_X8_isBelow zt_X8_isBelow zl_X8_59 rfl ⟨rfl, rfl⟩ ⟨Nat.le_of_ble_eq_true rfl, Nat.le_of_ble_eq_true rfl⟩ (kX8_isBelow l D cy ad X.2.2.2.1 x1 (2 : Int32)) hW hw hl.1 rfl rfl (Nat.le_of_ble_eq_true rfl) dX8_restore_2 (fun r_2 M_2 L_2 H_2 locs_2 hw hW => ?_)
  refine lv_if_ne (tgt := 11) hx hb0 dX8_restore_5 (by decide) (fun c_5 => ?_) (fun c_5 => ?_)
  · replace hw := hw.1 c_5
    refine lv_aload_n hx hb0 dX8_restore_11 rfl (lv_at hl 0 rfl) ?_
    refine z_getI X hW zC6 zF_0_2 (by decide) rfl zl_X8_20 dX8_restore_12 ?_
    refine lv_iload_n hx hb0 dX8_restore_15 rfl (lv_at hl 1 rfl) ?_
    refine z_Si X zc_X8_bit zt_X8_bit zl_X8_134 rfl ⟨rfl, rfl⟩ ⟨Nat.le_of_ble_eq_true rfl, Nat.le_of_ble_eq_true rfl⟩ (kX8_bit l D cy ad X.2.2.2.1 (M_2 0 2) x1) hW hw hl.1 rfl rfl (Nat.le_of_ble_eq_true rfl) dX8_restore_16 (fun r_16 M_16 L_16 H_16 locs_16 hw hW => ?_)
    refine lv_if_ne (tgt := 25) hx hb0 dX8_restore_19 (by decide) (fun c_19 => ?_) (fun c_19 => ?_)
    · replace hw := hw.1 c_19
      refine lv_aload_n hx hb0 dX8_restore_25 rfl (lv_at hl 0 rfl) ?_
      refine z_getR (k2 := 14) X hW zC6 zR_0_0 (by decide) rfl zl_X8_10 dX8_restore_26 ?_
      refine lv_aload_n hx hb0 dX8_restore_29 rfl (lv_at hl 0 rfl) ?_
      refine z_getR (k2 := 1) X hW zC6 zR_0_1 (by decide) rfl zl_X8_16 dX8_restore_30 ?_
      refine lv_iload_n hx hb0 dX8_restore_33 rfl (lv_at hl 1 rfl) ?_
      obtain ⟨g_34, hw⟩ := hw
      refine z_aald X hW g_34 dX8_restore_34 ?_
      refine z_VNv X (zOY isY_14) zC5 zc_X7_copy zs_X7_copy zn_X8_150 rfl ⟨rfl, rfl⟩ ⟨Nat.le_of_ble_eq_true rfl, Nat.le_of_ble_eq_true rfl⟩ (kX7_copy l D cy ad X.2.2.2.1 isY_14 (isY_z x1.toNatClampNeg)) hW hw hl.1 rfl rfl (Nat.le_of_ble_eq_true rfl) dX8_restore_35 (fun M_35 L_35 H_35 locs_35 hw hW => ?_)
      refine lv_iconst (v := (1 : Int32)) hx hb0 dX8_restore_38 (by decide) ?_
      exact hret _ ls _ _ (1 : Int32) M_35 L_35 dX8_restore_39 rfl hw hW
    · replace hw := hw.2 c_19
      refine lv_bipush (v := (-3 : Int32)) hx hb0 dX8_restore_22 (by decide) ?_
      exact hret _ ls _ _ (-3 : Int32) M_16 L_16 dX8_restore_24 rfl hw hW
  · replace hw := hw.2 c_5
    refine lv_bipush (v := (-2 : Int32)) hx hb0 dX8_restore_8 (by decide) ?_
    exact hret _ ls _ _ (-2 : Int32) M_2 L_2 dX8_restore_10 rfl hw hW
theorem kX8_restore (l : Launch) (D : va_G) (cy : Nat → ClassId) (ad : Nat → Nat) (hi : zInj ad) (x1 : Int32) : zMi l yX8_restore (.code yX8_restore cX8_restore 2 (some .int) :: zG) rmX8_restore D cy ad [.ref (ad 0), .int x1] (wpX8_restore x1) :=
  zMi_of (by decide +kernel) (Nat.le_of_ble_eq_true rfl) hi (fun X M L post _ hret ls hl hw hW => mX8_restore X post hret M L x1 _ _ ls hw hW hl)
abbrev rmX8_toldOfFlake : Room := { frames := 2, cells := 0, slots := 0, locals := 42 }
set_option maxRecDepth 20000 in
set_option maxHeartbeats 4000000 in
theorem mX8_toldOfFlake {p : Program} {l : Launch} {e : Env} {s : State} {m : MethodId} {args : Array Value} {below : List Frame} {meth : Method} {c : Code} {cells slots : Nat} {Q : State → Prop} {D : va_G} {cy : Nat → ClassId} {ad : Nat → Nat} {A : Nat → Prop} (X : zCx p rmX8_toldOfFlake s m args c cells slots cX8_toldOfFlake 3 RX8 D cy ad A) (post : Int32 → Mm → Ml → Prop) (hret : zRi p l e rmX8_toldOfFlake s m args below meth c cells slots Q cX8_toldOfFlake D cy ad A .int post) : ∀ (M : Mm) (L : Ml) (x1 : Int32) (x2 : Int32) (H : Heap) (locs : List Loc) (ls : Array Slot), wpX8_toldOfFlake x1 x2 M L post → zWd D cy ad A s H locs M L → lv_has ls 3 [(0, .ref (ad 0)), (1, .int x1), (2, .int x2)] → W p l e rmX8_toldOfFlake s m args below meth c H locs cells slots Q (F0 m 0 ls []) := by
  have hx := X.1.1; have hb0 := X.1.2.1; have hts := X.1.2.2.2.2
  intro M L x1 x2 H locs ls hw hW hl
  unfold wpX8_toldOfFlake at hw
  refine lv_aload_n hx hb0 dX8_toldOfFlake_0 rfl (lv_at hl 0 rfl) ?_
  refine z_getR (k2 := 14) X hW zC6 zR_0_0 (by decide) rfl zl_X8_10 dX8_toldOfFlake_1 ?_
  refine lv_iload_n hx hb0 dX8_toldOfFlake_4 rfl (lv_at hl 1 rfl) ?_
  refine z_VNi X (zOY isY_14) zC5 zc_X7_has zs_X7_has zn_X8_76 rfl ⟨rfl, rfl⟩ ⟨Nat.le_of_ble_eq_true rfl, Nat.le_of_ble_eq_true rfl⟩ (kX7_has l D cy ad X.2.2.2.1 isY_14 x1) hW hw hl.1 rfl rfl (Nat.le_of_ble_eq_true rfl) dX8_toldOfFlake_5 (fun r_5 M_5 L_5 H_5 locs_5 hw hW => ?_)
  refine lv_if_ne (tgt := 14) hx hb0 dX8_toldOfFlake_8 (by decide) (fun c_8 => ?_) (fun c_8 => ?_)
  · replace hw := hw.1 c_8
    refine lv_iload_n hx hb0 dX8_toldOfFlake_14 rfl (lv_at hl 2 rfl) ?_
    by_cases c_15_0 : x2 = (0 : Int32)
    · replace hw := hw.1 c_15_0
      refine lv_tableIn (tgt := 48) (off := 33) hx hb0 dX8_toldOfFlake_15 (by rw [c_15_0]; decide) (by rw [c_15_0]; decide) (by rw [c_15_0]; rfl) (by decide) ?_
      refine lv_aload_n hx hb0 dX8_toldOfFlake_48 rfl (lv_at hl 0 rfl) ?_
      refine z_getR (k2 := 14) X hW zC6 zR_0_0 (by decide) rfl zl_X8_10 dX8_toldOfFlake_49 ?_
      refine z_getRN (k2 := 15) X hW zC5 (zRY_1 isY_14) (by decide) rfl zn_X8_122 dX8_toldOfFlake_52 ?_
      refine lv_iload_n hx hb0 dX8_toldOfFlake_55 rfl (lv_at hl 1 rfl) ?_
      obtain ⟨g_56, hw⟩ := hw
      refine z_iald X hW (zIY_1 isY_14) g_56 dX8_toldOfFlake_56 ?_
      exact hret _ ls _ _ (M_5 15 x1.toNatClampNeg) M_5 L_5 dX8_toldOfFlake_57 rfl hw hW
    · replace hw := hw.2 c_15_0
      by_cases c_15_1 : x2 = (1 : Int32)
      · replace hw := hw.1 c_15_1
        refine lv_tableIn (tgt := 58) (off := 43) hx hb0 dX8_toldOfFlake_15 (by rw [c_15_1]; decide) (by rw [c_15_1]; decide) (by rw [c_15_1]; rfl) (by decide) ?_
        refine lv_aload_n hx hb0 dX8_toldOfFlake_58 rfl (lv_at hl 0 rfl) ?_
        refine z_getR (k2 := 14) X hW zC6 zR_0_0 (by decide) rfl zl_X8_10 dX8_toldOfFlake_59 ?_
        refine z_getRN (k2 := 16) X hW zC5 (zRY_2 isY_14) (by decide) rfl zn_X8_125 dX8_toldOfFlake_62 ?_
        refine lv_iload_n hx hb0 dX8_toldOfFlake_65 rfl (lv_at hl 1 rfl) ?_
        obtain ⟨g_66, hw⟩ := hw
        refine z_iald X hW (zIY_2 isY_14) g_66 dX8_toldOfFlake_66 ?_
        exact hret _ ls _ _ (M_5 16 x1.toNatClampNeg) M_5 L_5 dX8_toldOfFlake_67 rfl hw hW
      · replace hw := hw.2 c_15_1
        by_cases c_15_2 : x2 = (2 : Int32)
        · replace hw := hw.1 c_15_2
          refine lv_tableIn (tgt := 68) (off := 53) hx hb0 dX8_toldOfFlake_15 (by rw [c_15_2]; decide) (by rw [c_15_2]; decide) (by rw [c_15_2]; rfl) (by decide) ?_
          refine lv_aload_n hx hb0 dX8_toldOfFlake_68 rfl (lv_at hl 0 rfl) ?_
          refine z_getR (k2 := 14) X hW zC6 zR_0_0 (by decide) rfl zl_X8_10 dX8_toldOfFlake_69 ?_
          refine z_getRN (k2 := 17) X hW zC5 (zRY_3 isY_14) (by decide) rfl zn_X8_128 dX8_toldOfFlake_72 ?_
          refine lv_iload_n hx hb0 dX8_toldOfFlake_75 rfl (lv_at hl 1 rfl) ?_
          obtain ⟨g_76, hw⟩ := hw
          refine z_iald X hW (zIY_3 isY_14) g_76 dX8_toldOfFlake_76 ?_
          exact hret _ ls _ _ (M_5 17 x1.toNatClampNeg) M_5 L_5 dX8_toldOfFlake_77 rfl hw hW
        · replace hw := hw.2 c_15_2
          by_cases c_15_3 : x2 = (3 : Int32)
          · replace hw := hw.1 c_15_3
            refine lv_tableIn (tgt := 78) (off := 63) hx hb0 dX8_toldOfFlake_15 (by rw [c_15_3]; decide) (by rw [c_15_3]; decide) (by rw [c_15_3]; rfl) (by decide) ?_
            refine lv_aload_n hx hb0 dX8_toldOfFlake_78 rfl (lv_at hl 0 rfl) ?_
            refine z_getR (k2 := 14) X hW zC6 zR_0_0 (by decide) rfl zl_X8_10 dX8_toldOfFlake_79 ?_
            refine z_getRN (k2 := 18) X hW zC5 (zRY_4 isY_14) (by decide) rfl zn_X8_233 dX8_toldOfFlake_82 ?_
            refine lv_iload_n hx hb0 dX8_toldOfFlake_85 rfl (lv_at hl 1 rfl) ?_
            obtain ⟨g_86, hw⟩ := hw
            refine z_iald X hW (zIY_4 isY_14) g_86 dX8_toldOfFlake_86 ?_
            exact hret _ ls _ _ (M_5 18 x1.toNatClampNeg) M_5 L_5 dX8_toldOfFlake_87 rfl hw hW
          · replace hw := hw.2 c_15_3
            by_cases c_15_4 : x2 = (4 : Int32)
            · replace hw := hw.1 c_15_4
              refine lv_tableIn (tgt := 88) (off := 73) hx hb0 dX8_toldOfFlake_15 (by rw [c_15_4]; decide) (by rw [c_15_4]; decide) (by rw [c_15_4]; rfl) (by decide) ?_
              refine lv_aload_n hx hb0 dX8_toldOfFlake_88 rfl (lv_at hl 0 rfl) ?_
              refine z_getR (k2 := 14) X hW zC6 zR_0_0 (by decide) rfl zl_X8_10 dX8_toldOfFlake_89 ?_
              refine z_getRN (k2 := 19) X hW zC5 (zRY_5 isY_14) (by decide) rfl zn_X8_131 dX8_toldOfFlake_92 ?_
              refine lv_iload_n hx hb0 dX8_toldOfFlake_95 rfl (lv_at hl 1 rfl) ?_
              obtain ⟨g_96, hw⟩ := hw
              refine z_iald X hW (zIY_5 isY_14) g_96 dX8_toldOfFlake_96 ?_
              exact hret _ ls _ _ (M_5 19 x1.toNatClampNeg) M_5 L_5 dX8_toldOfFlake_97 rfl hw hW
            · replace hw := hw.2 c_15_4
              refine lv_tableOut (tgt := 98) hx hb0 dX8_toldOfFlake_15 (by have q0 : ¬ x2.toInt = 0 := lv_neT c_15_0 (by decide); have q1 : ¬ x2.toInt = 1 := lv_neT c_15_1 (by decide); have q2 : ¬ x2.toInt = 2 := lv_neT c_15_2 (by decide); have q3 : ¬ x2.toInt = 3 := lv_neT c_15_3 (by decide); have q4 : ¬ x2.toInt = 4 := lv_neT c_15_4 (by decide); omega) (by decide) ?_
              refine lv_bipush (v := (-2 : Int32)) hx hb0 dX8_toldOfFlake_98 (by decide) ?_
              exact hret _ ls _ _ (-2 : Int32) M_5 L_5 dX8_toldOfFlake_100 rfl hw hW
  · replace hw := hw.2 c_8
    refine lv_bipush (v := (-2 : Int32)) hx hb0 dX8_toldOfFlake_11 (by decide) ?_
    exact hret _ ls _ _ (-2 : Int32) M_5 L_5 dX8_toldOfFlake_13 rfl hw hW
theorem kX8_toldOfFlake (l : Launch) (D : va_G) (cy : Nat → ClassId) (ad : Nat → Nat) (hi : zInj ad) (x1 : Int32) (x2 : Int32) : zMi l yX8_toldOfFlake (.code yX8_toldOfFlake cX8_toldOfFlake 3 (some .int) :: zG) rmX8_toldOfFlake D cy ad [.ref (ad 0), .int x1, .int x2] (wpX8_toldOfFlake x1 x2) :=
  zMi_of (by decide +kernel) (Nat.le_of_ble_eq_true rfl) hi (fun X M L post _ hret ls hl hw hW => mX8_toldOfFlake X post hret M L x1 x2 _ _ ls hw hW hl)
abbrev rmX8_toldOfOne : Room := { frames := 1, cells := 0, slots := 0, locals := 21 }
set_option maxRecDepth 20000 in
set_option maxHeartbeats 4000000 in
theorem mX8_toldOfOne_17 {p : Program} {l : Launch} {e : Env} {s : State} {m : MethodId} {args : Array Value} {below : List Frame} {meth : Method} {c : Code} {cells slots : Nat} {Q : State → Prop} {D : va_G} {cy : Nat → ClassId} {ad : Nat → Nat} {A : Nat → Prop} (X : zCx p rmX8_toldOfOne s m args c cells slots cX8_toldOfOne 3 RX8 D cy ad A) (post : Int32 → Mm → Ml → Prop) (hret : zRi p l e rmX8_toldOfOne s m args below meth c cells slots Q cX8_toldOfOne D cy ad A .int post) : ∀ (M : Mm) (L : Ml) (H : Heap) (locs : List Loc) (ls : Array Slot), wpX8_toldOfOne_17 post M L → zWd D cy ad A s H locs M L → lv_has ls 3 [] → W p l e rmX8_toldOfOne s m args below meth c H locs cells slots Q (F0 m 17 ls []) := by
  have hx := X.1.1; have hb0 := X.1.2.1; have hts := X.1.2.2.2.2
  intro M L H locs ls hw hW hl
  unfold wpX8_toldOfOne_17 at hw
  refine lv_bipush (v := (-2 : Int32)) hx hb0 dX8_toldOfOne_17 (by decide) ?_
  exact hret _ ls _ _ (-2 : Int32) M L dX8_toldOfOne_19 rfl hw hW
set_option maxRecDepth 20000 in
set_option maxHeartbeats 4000000 in
theorem mX8_toldOfOne_47 {p : Program} {l : Launch} {e : Env} {s : State} {m : MethodId} {args : Array Value} {below : List Frame} {meth : Method} {c : Code} {cells slots : Nat} {Q : State → Prop} {D : va_G} {cy : Nat → ClassId} {ad : Nat → Nat} {A : Nat → Prop} (X : zCx p rmX8_toldOfOne s m args c cells slots cX8_toldOfOne 3 RX8 D cy ad A) (post : Int32 → Mm → Ml → Prop) (hret : zRi p l e rmX8_toldOfOne s m args below meth c cells slots Q cX8_toldOfOne D cy ad A .int post) : ∀ (M : Mm) (L : Ml) (s0 : Int32) (H : Heap) (locs : List Loc) (ls : Array Slot), wpX8_toldOfOne_47 post M L s0 → zWd D cy ad A s H locs M L → lv_has ls 3 [] → W p l e rmX8_toldOfOne s m args below meth c H locs cells slots Q (F0 m 47 ls [.int s0]) := by
  have hx := X.1.1; have hb0 := X.1.2.1; have hts := X.1.2.2.2.2
  intro M L s0 H locs ls hw hW hl
  unfold wpX8_toldOfOne_47 at hw
  exact hret _ ls _ _ s0 M L dX8_toldOfOne_47 rfl hw hW
set_option maxRecDepth 20000 in
set_option maxHeartbeats 4000000 in
theorem mX8_toldOfOne {p : Program} {l : Launch} {e : Env} {s : State} {m : MethodId} {args : Array Value} {below : List Frame} {meth : Method} {c : Code} {cells slots : Nat} {Q : State → Prop} {D : va_G} {cy : Nat → ClassId} {ad : Nat → Nat} {A : Nat → Prop} (X : zCx p rmX8_toldOfOne s m args c cells slots cX8_toldOfOne 3 RX8 D cy ad A) (post : Int32 → Mm → Ml → Prop) (hret : zRi p l e rmX8_toldOfOne s m args below meth c cells slots Q cX8_toldOfOne D cy ad A .int post) : ∀ (M : Mm) (L : Ml) (x1 : Int32) (x2 : Int32) (H : Heap) (locs : List Loc) (ls : Array Slot), wpX8_toldOfOne x1 x2 M L post → zWd D cy ad A s H locs M L → lv_has ls 3 [(0, .ref (ad 0)), (1, .int x1), (2, .int x2)] → W p l e rmX8_toldOfOne s m args below meth c H locs cells slots Q (F0 m 0 ls []) := by
  have hx := X.1.1; have hb0 := X.1.2.1; have hts := X.1.2.2.2.2
  intro M L x1 x2 H locs ls hw hW hl
  unfold wpX8_toldOfOne at hw
  refine lv_iload_n hx hb0 dX8_toldOfOne_0 rfl (lv_at hl 1 rfl) ?_
  refine lv_bipush (v := (6 : Int32)) hx hb0 dX8_toldOfOne_1 (by decide) ?_
  refine z_Si X zc_X8_isBelow zt_X8_isBelow zl_X8_59 rfl ⟨rfl, rfl⟩ ⟨Nat.le_of_ble_eq_true rfl, Nat.le_of_ble_eq_true rfl⟩ (kX8_isBelow l D cy ad X.2.2.2.1 x1 (6 : Int32)) hW hw hl.1 rfl rfl (Nat.le_of_ble_eq_true rfl) dX8_toldOfOne_3 (fun r_3 M_3 L_3 H_3 locs_3 hw hW => ?_)
  refine lv_if_eq (tgt := 17) hx hb0 dX8_toldOfOne_6 (by decide) (fun c_6 => ?_) (fun c_6 => ?_)
  · replace hw := hw.1 c_6
    exact mX8_toldOfOne_17 X post hret M_3 L_3 _ _ ls hw hW (lv_sub hl [] rfl)
  · replace hw := hw.2 c_6
    refine lv_iload_n hx hb0 dX8_toldOfOne_9 rfl (lv_at hl 2 rfl) ?_
    refine lv_iconst (v := (2 : Int32)) hx hb0 dX8_toldOfOne_10 (by decide) ?_
    refine z_Si X zc_X8_isBelow zt_X8_isBelow zl_X8_59 rfl ⟨rfl, rfl⟩ ⟨Nat.le_of_ble_eq_true rfl, Nat.le_of_ble_eq_true rfl⟩ (kX8_isBelow l D cy ad X.2.2.2.1 x2 (2 : Int32)) hW hw hl.1 rfl rfl (Nat.le_of_ble_eq_true rfl) dX8_toldOfOne_11 (fun r_11 M_11 L_11 H_11 locs_11 hw hW => ?_)
    refine lv_if_ne (tgt := 20) hx hb0 dX8_toldOfOne_14 (by decide) (fun c_14 => ?_) (fun c_14 => ?_)
    · replace hw := hw.1 c_14
      refine lv_iload_n hx hb0 dX8_toldOfOne_20 rfl (lv_at hl 2 rfl) ?_
      refine lv_if_ne (tgt := 36) hx hb0 dX8_toldOfOne_21 (by decide) (fun c_21 => ?_) (fun c_21 => ?_)
      · replace hw := hw.1 c_21
        refine lv_aload_n hx hb0 dX8_toldOfOne_36 rfl (lv_at hl 0 rfl) ?_
        refine z_getR (k2 := 14) X hW zC6 zR_0_0 (by decide) rfl zl_X8_10 dX8_toldOfOne_37 ?_
        refine z_getIN X hW zC5 (zFY_7 isY_14) (by decide) rfl zn_X8_88 dX8_toldOfOne_40 ?_
        refine lv_iload_n hx hb0 dX8_toldOfOne_43 rfl (lv_at hl 1 rfl) ?_
        refine z_Si X zc_X8_bit zt_X8_bit zl_X8_134 rfl ⟨rfl, rfl⟩ ⟨Nat.le_of_ble_eq_true rfl, Nat.le_of_ble_eq_true rfl⟩ (kX8_bit l D cy ad X.2.2.2.1 (M_11 14 7) x1) hW hw hl.1 rfl rfl (Nat.le_of_ble_eq_true rfl) dX8_toldOfOne_44 (fun r_44 M_44 L_44 H_44 locs_44 hw hW => ?_)
        exact mX8_toldOfOne_47 X post hret M_44 L_44 r_44 _ _ ls hw hW (lv_sub hl [] rfl)
      · replace hw := hw.2 c_21
        refine lv_aload_n hx hb0 dX8_toldOfOne_24 rfl (lv_at hl 0 rfl) ?_
        refine z_getR (k2 := 14) X hW zC6 zR_0_0 (by decide) rfl zl_X8_10 dX8_toldOfOne_25 ?_
        refine z_getRN (k2 := 20) X hW zC5 (zRY_6 isY_14) (by decide) rfl zn_X8_84 dX8_toldOfOne_28 ?_
        refine lv_iload_n hx hb0 dX8_toldOfOne_31 rfl (lv_at hl 1 rfl) ?_
        obtain ⟨g_32, hw⟩ := hw
        refine z_iald X hW (zIY_6 isY_14) g_32 dX8_toldOfOne_32 ?_
        refine lv_goto (tgt := 47) hx hb0 dX8_toldOfOne_33 (by decide) ?_
        exact mX8_toldOfOne_47 X post hret M_11 L_11 (M_11 20 x1.toNatClampNeg) _ _ ls hw hW (lv_sub hl [] rfl)
    · replace hw := hw.2 c_14
      exact mX8_toldOfOne_17 X post hret M_11 L_11 _ _ ls hw hW (lv_sub hl [] rfl)
theorem kX8_toldOfOne (l : Launch) (D : va_G) (cy : Nat → ClassId) (ad : Nat → Nat) (hi : zInj ad) (x1 : Int32) (x2 : Int32) : zMi l yX8_toldOfOne (.code yX8_toldOfOne cX8_toldOfOne 3 (some .int) :: zG) rmX8_toldOfOne D cy ad [.ref (ad 0), .int x1, .int x2] (wpX8_toldOfOne x1 x2) :=
  zMi_of (by decide +kernel) (Nat.le_of_ble_eq_true rfl) hi (fun X M L post _ hret ls hl hw hW => mX8_toldOfOne X post hret M L x1 x2 _ _ ls hw hW hl)
abbrev rmX8_told : Room := { frames := 3, cells := 0, slots := 0, locals := 64 }
set_option maxRecDepth 20000 in
set_option maxHeartbeats 4000000 in
theorem mX8_told {p : Program} {l : Launch} {e : Env} {s : State} {m : MethodId} {args : Array Value} {below : List Frame} {meth : Method} {c : Code} {cells slots : Nat} {Q : State → Prop} {D : va_G} {cy : Nat → ClassId} {ad : Nat → Nat} {A : Nat → Prop} (X : zCx p rmX8_told s m args c cells slots cX8_told 2 RX8 D cy ad A) (post : Int32 → Mm → Ml → Prop) (hret : zRi p l e rmX8_told s m args below meth c cells slots Q cX8_told D cy ad A .int post) : ∀ (M : Mm) (L : Ml) (x1 : Int32) (H : Heap) (locs : List Loc) (ls : Array Slot), wpX8_told x1 M L post → zWd D cy ad A s H locs M L → lv_has ls 2 [(0, .ref (ad 0)), (1, .int x1)] → W p l e rmX8_told s m args below meth c H locs cells slots Q (F0 m 0 ls []) := by
  have hx := X.1.1; have hb0 := X.1.2.1; have hts := X.1.2.2.2.2
  intro M L x1 H locs ls hw hW hl
  unfold wpX8_told at hw
  refine lv_iload_n hx hb0 dX8_told_0 rfl (lv_at hl 1 rfl) ?_
  refine lv_bipush (v := (100 : Int32)) hx hb0 dX8_told_1 (by decide) ?_
  refine lv_icmp_lt (tgt := 22) hx hb0 dX8_told_3 (by decide) (fun c_3 => ?_) (fun c_3 => ?_)
  · replace hw := hw.1 c_3
    refine lv_iload_n hx hb0 dX8_told_22 rfl (lv_at hl 1 rfl) ?_
    refine lv_bipush (v := (10 : Int32)) hx hb0 dX8_told_23 (by decide) ?_
    refine lv_icmp_lt (tgt := 43) hx hb0 dX8_told_25 (by decide) (fun c_25 => ?_) (fun c_25 => ?_)
    · replace hw := hw.1 c_25
      refine lv_iload_n hx hb0 dX8_told_43 rfl (lv_at hl 1 rfl) ?_
      by_cases c_44_0 : x1 = (0 : Int32)
      · replace hw := hw.1 c_44_0
        refine lv_tableIn (tgt := 84) (off := 40) hx hb0 dX8_told_44 (by rw [c_44_0]; decide) (by rw [c_44_0]; decide) (by rw [c_44_0]; rfl) (by decide) ?_
        refine lv_aload_n hx hb0 dX8_told_84 rfl (lv_at hl 0 rfl) ?_
        refine z_getR (k2 := 2) X hW zC6 zR_0_3 (by decide) rfl zl_X8_27 dX8_told_85 ?_
        refine z_getIN X hW zC3 zF_2_1 (by decide) rfl zn_X8_100 dX8_told_88 ?_
        exact hret _ ls _ _ (M 2 1) M L dX8_told_91 rfl hw hW
      · replace hw := hw.2 c_44_0
        by_cases c_44_1 : x1 = (1 : Int32)
        · replace hw := hw.1 c_44_1
          refine lv_tableIn (tgt := 92) (off := 48) hx hb0 dX8_told_44 (by rw [c_44_1]; decide) (by rw [c_44_1]; decide) (by rw [c_44_1]; rfl) (by decide) ?_
          refine lv_aload_n hx hb0 dX8_told_92 rfl (lv_at hl 0 rfl) ?_
          refine z_getR (k2 := 14) X hW zC6 zR_0_0 (by decide) rfl zl_X8_10 dX8_told_93 ?_
          refine z_getIN X hW zC5 (zFY_0 isY_14) (by decide) rfl zn_X8_67 dX8_told_96 ?_
          exact hret _ ls _ _ (M 14 0) M L dX8_told_99 rfl hw hW
        · replace hw := hw.2 c_44_1
          by_cases c_44_2 : x1 = (2 : Int32)
          · replace hw := hw.1 c_44_2
            refine lv_tableIn (tgt := 100) (off := 56) hx hb0 dX8_told_44 (by rw [c_44_2]; decide) (by rw [c_44_2]; decide) (by rw [c_44_2]; rfl) (by decide) ?_
            refine lv_aload_n hx hb0 dX8_told_100 rfl (lv_at hl 0 rfl) ?_
            refine z_getR (k2 := 14) X hW zC6 zR_0_0 (by decide) rfl zl_X8_10 dX8_told_101 ?_
            refine z_getIN X hW zC5 (zFY_8 isY_14) (by decide) rfl zn_X8_91 dX8_told_104 ?_
            exact hret _ ls _ _ (M 14 8) M L dX8_told_107 rfl hw hW
          · replace hw := hw.2 c_44_2
            by_cases c_44_3 : x1 = (3 : Int32)
            · replace hw := hw.1 c_44_3
              refine lv_tableIn (tgt := 108) (off := 64) hx hb0 dX8_told_44 (by rw [c_44_3]; decide) (by rw [c_44_3]; decide) (by rw [c_44_3]; rfl) (by decide) ?_
              refine lv_aload_n hx hb0 dX8_told_108 rfl (lv_at hl 0 rfl) ?_
              refine z_getR (k2 := 14) X hW zC6 zR_0_0 (by decide) rfl zl_X8_10 dX8_told_109 ?_
              refine z_getIN X hW zC5 (zFY_9 isY_14) (by decide) rfl zn_X8_94 dX8_told_112 ?_
              exact hret _ ls _ _ (M 14 9) M L dX8_told_115 rfl hw hW
            · replace hw := hw.2 c_44_3
              by_cases c_44_4 : x1 = (4 : Int32)
              · replace hw := hw.1 c_44_4
                refine lv_tableIn (tgt := 116) (off := 72) hx hb0 dX8_told_44 (by rw [c_44_4]; decide) (by rw [c_44_4]; decide) (by rw [c_44_4]; rfl) (by decide) ?_
                refine lv_aload_n hx hb0 dX8_told_116 rfl (lv_at hl 0 rfl) ?_
                refine z_getR (k2 := 14) X hW zC6 zR_0_0 (by decide) rfl zl_X8_10 dX8_told_117 ?_
                refine z_getIN X hW zC5 (zFY_10 isY_14) (by decide) rfl zn_X8_188 dX8_told_120 ?_
                exact hret _ ls _ _ (M 14 10) M L dX8_told_123 rfl hw hW
              · replace hw := hw.2 c_44_4
                by_cases c_44_5 : x1 = (5 : Int32)
                · replace hw := hw.1 c_44_5
                  refine lv_tableIn (tgt := 124) (off := 80) hx hb0 dX8_told_44 (by rw [c_44_5]; decide) (by rw [c_44_5]; decide) (by rw [c_44_5]; rfl) (by decide) ?_
                  refine lv_aload_n hx hb0 dX8_told_124 rfl (lv_at hl 0 rfl) ?_
                  refine z_getR (k2 := 14) X hW zC6 zR_0_0 (by decide) rfl zl_X8_10 dX8_told_125 ?_
                  refine z_VNi X (zOY isY_14) zC5 zc_X7_inRiver zs_X7_inRiver zn_X8_147 rfl ⟨rfl, rfl⟩ ⟨Nat.le_of_ble_eq_true rfl, Nat.le_of_ble_eq_true rfl⟩ (kX7_inRiver l D cy ad X.2.2.2.1 isY_14) hW hw hl.1 rfl rfl (Nat.le_of_ble_eq_true rfl) dX8_told_128 (fun r_128 M_128 L_128 H_128 locs_128 hw hW => ?_)
                  exact hret _ ls _ _ r_128 M_128 L_128 dX8_told_131 rfl hw hW
                · replace hw := hw.2 c_44_5
                  refine lv_tableOut (tgt := 132) hx hb0 dX8_told_44 (by have q0 : ¬ x1.toInt = 0 := lv_neT c_44_0 (by decide); have q1 : ¬ x1.toInt = 1 := lv_neT c_44_1 (by decide); have q2 : ¬ x1.toInt = 2 := lv_neT c_44_2 (by decide); have q3 : ¬ x1.toInt = 3 := lv_neT c_44_3 (by decide); have q4 : ¬ x1.toInt = 4 := lv_neT c_44_4 (by decide); have q5 : ¬ x1.toInt = 5 := lv_neT c_44_5 (by decide); omega) (by decide) ?_
                  refine lv_bipush (v := (-2 : Int32)) hx hb0 dX8_told_132 (by decide) ?_
                  exact hret _ ls _ _ (-2 : Int32) M L dX8_told_134 rfl hw hW
    · replace hw := hw.2 c_25
      refine lv_aload_n hx hb0 dX8_told_28 rfl (lv_at hl 0 rfl) ?_
      refine lv_iload_n hx hb0 dX8_told_29 rfl (lv_at hl 1 rfl) ?_
      refine lv_bipush (v := (10 : Int32)) hx hb0 dX8_told_30 (by decide) ?_
      refine lv_idiv hx hb0 dX8_told_32 (by decide) ?_
      refine lv_iconst (v := (1 : Int32)) hx hb0 dX8_told_33 (by decide) ?_
      refine lv_isub hx hb0 dX8_told_34 ?_
      refine lv_iload_n hx hb0 dX8_told_35 rfl (lv_at hl 1 rfl) ?_
      refine lv_bipush (v := (10 : Int32)) hx hb0 dX8_told_36 (by decide) ?_
      refine lv_irem hx hb0 dX8_told_38 (by decide) ?_
      refine z_Vi X zO_0 zC6 zc_X8_toldOfFlake zs_X8_toldOfFlake zl_X8_230 rfl ⟨rfl, rfl⟩ ⟨Nat.le_of_ble_eq_true rfl, Nat.le_of_ble_eq_true rfl⟩ (kX8_toldOfFlake l D cy ad X.2.2.2.1 ((x1 / (10 : Int32)) - (1 : Int32)) (x1 - x1 / (10 : Int32) * (10 : Int32))) hW hw hl.1 rfl rfl (Nat.le_of_ble_eq_true rfl) dX8_told_39 (fun r_39 M_39 L_39 H_39 locs_39 hw hW => ?_)
      exact hret _ ls _ _ r_39 M_39 L_39 dX8_told_42 rfl hw hW
  · replace hw := hw.2 c_3
    refine lv_aload_n hx hb0 dX8_told_6 rfl (lv_at hl 0 rfl) ?_
    refine lv_iload_n hx hb0 dX8_told_7 rfl (lv_at hl 1 rfl) ?_
    refine lv_bipush (v := (10 : Int32)) hx hb0 dX8_told_8 (by decide) ?_
    refine lv_idiv hx hb0 dX8_told_10 (by decide) ?_
    refine lv_bipush (v := (10 : Int32)) hx hb0 dX8_told_11 (by decide) ?_
    refine lv_isub hx hb0 dX8_told_13 ?_
    refine lv_iload_n hx hb0 dX8_told_14 rfl (lv_at hl 1 rfl) ?_
    refine lv_bipush (v := (10 : Int32)) hx hb0 dX8_told_15 (by decide) ?_
    refine lv_irem hx hb0 dX8_told_17 (by decide) ?_
    refine z_Vi X zO_0 zC6 zc_X8_toldOfOne zs_X8_toldOfOne zl_X8_227 rfl ⟨rfl, rfl⟩ ⟨Nat.le_of_ble_eq_true rfl, Nat.le_of_ble_eq_true rfl⟩ (kX8_toldOfOne l D cy ad X.2.2.2.1 ((x1 / (10 : Int32)) - (10 : Int32)) (x1 - x1 / (10 : Int32) * (10 : Int32))) hW hw hl.1 rfl rfl (Nat.le_of_ble_eq_true rfl) dX8_told_18 (fun r_18 M_18 L_18 H_18 locs_18 hw hW => ?_)
    exact hret _ ls _ _ r_18 M_18 L_18 dX8_told_21 rfl hw hW
theorem kX8_told (l : Launch) (D : va_G) (cy : Nat → ClassId) (ad : Nat → Nat) (hi : zInj ad) (x1 : Int32) : zMi l yX8_told (.code yX8_told cX8_told 2 (some .int) :: zG) rmX8_told D cy ad [.ref (ad 0), .int x1] (wpX8_told x1) :=
  zMi_of (by decide +kernel) (Nat.le_of_ble_eq_true rfl) hi (fun X M L post _ hret ls hl hw hW => mX8_told X post hret M L x1 _ _ ls hw hW hl)
abbrev rmX9_in : Room := { frames := 0, cells := 0, slots := 0, locals := 0 }
set_option maxRecDepth 20000 in
set_option maxHeartbeats 4000000 in
theorem mX9_in_18 {p : Program} {l : Launch} {e : Env} {s : State} {m : MethodId} {args : Array Value} {below : List Frame} {meth : Method} {c : Code} {cells slots : Nat} {Q : State → Prop} {D : va_G} {cy : Nat → ClassId} {ad : Nat → Nat} {A : Nat → Prop} (X : zCx p rmX9_in s m args c cells slots cX9_in 6 RX9 D cy ad A) (post : Int32 → Mm → Ml → Prop) (hret : zRi p l e rmX9_in s m args below meth c cells slots Q cX9_in D cy ad A .boolean post) : ∀ (M : Mm) (L : Ml) (s0 : Int32) (H : Heap) (locs : List Loc) (ls : Array Slot), wpX9_in_18 post M L s0 → zWd D cy ad A s H locs M L → lv_has ls 6 [] → W p l e rmX9_in s m args below meth c H locs cells slots Q (F0 m 18 ls [.int s0]) := by
  have hx := X.1.1; have hb0 := X.1.2.1; have hts := X.1.2.2.2.2
  intro M L s0 H locs ls hw hW hl
  unfold wpX9_in_18 at hw
  exact hret _ ls _ _ s0 M L dX9_in_18 (z_bool hw.1) hw.2 hW
set_option maxRecDepth 20000 in
set_option maxHeartbeats 4000000 in
theorem mX9_in_17 {p : Program} {l : Launch} {e : Env} {s : State} {m : MethodId} {args : Array Value} {below : List Frame} {meth : Method} {c : Code} {cells slots : Nat} {Q : State → Prop} {D : va_G} {cy : Nat → ClassId} {ad : Nat → Nat} {A : Nat → Prop} (X : zCx p rmX9_in s m args c cells slots cX9_in 6 RX9 D cy ad A) (post : Int32 → Mm → Ml → Prop) (hret : zRi p l e rmX9_in s m args below meth c cells slots Q cX9_in D cy ad A .boolean post) : ∀ (M : Mm) (L : Ml) (H : Heap) (locs : List Loc) (ls : Array Slot), wpX9_in_17 post M L → zWd D cy ad A s H locs M L → lv_has ls 6 [] → W p l e rmX9_in s m args below meth c H locs cells slots Q (F0 m 17 ls []) := by
  have hx := X.1.1; have hb0 := X.1.2.1; have hts := X.1.2.2.2.2
  intro M L H locs ls hw hW hl
  unfold wpX9_in_17 at hw
  refine lv_iconst (v := (0 : Int32)) hx hb0 dX9_in_17 (by decide) ?_
  exact mX9_in_18 X post hret M L (0 : Int32) _ _ ls hw hW (lv_sub hl [] rfl)
set_option maxRecDepth 20000 in
set_option maxHeartbeats 4000000 in
theorem mX9_in {p : Program} {l : Launch} {e : Env} {s : State} {m : MethodId} {args : Array Value} {below : List Frame} {meth : Method} {c : Code} {cells slots : Nat} {Q : State → Prop} {D : va_G} {cy : Nat → ClassId} {ad : Nat → Nat} {A : Nat → Prop} (X : zCx p rmX9_in s m args c cells slots cX9_in 6 RX9 D cy ad A) (post : Int32 → Mm → Ml → Prop) (hret : zRi p l e rmX9_in s m args below meth c cells slots Q cX9_in D cy ad A .boolean post) : ∀ (M : Mm) (L : Ml) (x1 : Int64) (x2 : Int64) (x3 : Int64) (H : Heap) (locs : List Loc) (ls : Array Slot), wpX9_in x1 x2 x3 M L post → zWd D cy ad A s H locs M L → lv_has ls 6 [(0, .long x1), (2, .long x2), (4, .long x3)] → W p l e rmX9_in s m args below meth c H locs cells slots Q (F0 m 0 ls []) := by
  have hx := X.1.1; have hb0 := X.1.2.1; have hts := X.1.2.2.2.2
  intro M L x1 x2 x3 H locs ls hw hW hl
  unfold wpX9_in at hw
  refine lv_lload_n hx hb0 dX9_in_0 rfl (lv_at hl 0 rfl) ?_
  refine lv_lload_n hx hb0 dX9_in_1 rfl (lv_at hl 1 rfl) ?_
  refine W.lcmp hx hb0 dX9_in_2 ?_
  refine lv_if_lt (tgt := 17) hx hb0 dX9_in_3 (by decide) (fun c_3 => ?_) (fun c_3 => ?_)
  · replace hw := hw.1 c_3
    exact mX9_in_17 X post hret M L _ _ ls hw hW (lv_sub hl [] rfl)
  · replace hw := hw.2 c_3
    refine lv_lload_n hx hb0 dX9_in_6 rfl (lv_at hl 0 rfl) ?_
    refine lv_lload hx hb0 dX9_in_7 (lv_at hl 2 rfl) ?_
    refine W.lcmp hx hb0 dX9_in_9 ?_
    refine lv_if_gt (tgt := 17) hx hb0 dX9_in_10 (by decide) (fun c_10 => ?_) (fun c_10 => ?_)
    · replace hw := hw.1 c_10
      exact mX9_in_17 X post hret M L _ _ ls hw hW (lv_sub hl [] rfl)
    · replace hw := hw.2 c_10
      refine lv_iconst (v := (1 : Int32)) hx hb0 dX9_in_13 (by decide) ?_
      refine lv_goto (tgt := 18) hx hb0 dX9_in_14 (by decide) ?_
      exact mX9_in_18 X post hret M L (1 : Int32) _ _ ls hw hW (lv_sub hl [] rfl)
theorem kX9_in (l : Launch) (D : va_G) (cy : Nat → ClassId) (ad : Nat → Nat) (hi : zInj ad) (x1 : Int64) (x2 : Int64) (x3 : Int64) : zMi l yX9_in (.code yX9_in cX9_in 6 (some .boolean) :: zG) rmX9_in D cy ad [.long x1, .long x2, .long x3] (wpX9_in x1 x2 x3) :=
  zMi_of (by decide +kernel) (Nat.le_of_ble_eq_true rfl) hi (fun X M L post _ hret ls hl hw hW => mX9_in X post hret M L x1 x2 x3 _ _ ls hw hW hl)
abbrev rmX9_bitsOf : Room := { frames := 0, cells := 0, slots := 0, locals := 0 }
set_option maxRecDepth 20000 in
set_option maxHeartbeats 4000000 in
theorem mX9_bitsOf_4 {p : Program} {l : Launch} {e : Env} {s : State} {m : MethodId} {args : Array Value} {below : List Frame} {meth : Method} {c : Code} {cells slots : Nat} {Q : State → Prop} {D : va_G} {cy : Nat → ClassId} {ad : Nat → Nat} {A : Nat → Prop} (X : zCx p rmX9_bitsOf s m args c cells slots cX9_bitsOf 3 RX9 D cy ad A) (post : Int32 → Mm → Ml → Prop) (hret : zRi p l e rmX9_bitsOf s m args below meth c cells slots Q cX9_bitsOf D cy ad A .int post) : ∀ (j9 : Nat) (M : Mm) (L : Ml) (v1 : Int32) (v2 : Int32) (H : Heap) (locs : List Loc) (ls : Array Slot), wlX9_bitsOf_4 post j9 (M, L, v1, v2) → zWd D cy ad A s H locs M L → lv_has ls 3 [(1, .int v1), (2, .int v2)] → W p l e rmX9_bitsOf s m args below meth c H locs cells slots Q (F0 m 4 ls []) := by
  have hx := X.1.1; have hb0 := X.1.2.1; have hts := X.1.2.2.2.2
  intro j9
  induction j9 with
  | zero => intro M L v1 v2 H locs ls hw; exact hw.elim
  | succ j9 ih =>
    obtain ⟨K4, hKe⟩ : ∃ K : Mm → Ml → Int32 → Int32 → Prop, K = fun M L v1 v2 => wlX9_bitsOf_4 post j9 (M, L, v1, v2) := ⟨_, rfl⟩
    have hK4 : ∀ (M : Mm) (L : Ml) (v1 : Int32) (v2 : Int32) (H : Heap) (locs : List Loc) (ls : Array Slot), K4 M L v1 v2 → zWd D cy ad A s H locs M L → lv_has ls 3 [(1, .int v1), (2, .int v2)] → W p l e rmX9_bitsOf s m args below meth c H locs cells slots Q (F0 m 4 ls []) := by intro M L v1 v2 H locs ls hw; rw [hKe] at hw; exact ih M L v1 v2 H locs ls hw
    intro M L v1 v2 H locs ls hw hW hl
    have hw : wpX9_bitsOf_4 post K4 M L v1 v2 := by rw [hKe]; exact hw
    clear ih
    unfold wpX9_bitsOf_4 at hw
    refine lv_iload_n hx hb0 dX9_bitsOf_4 rfl (lv_at hl 1 rfl) ?_
    refine lv_if_eq (tgt := 20) hx hb0 dX9_bitsOf_5 (by decide) (fun c_5 => ?_) (fun c_5 => ?_)
    · replace hw := hw.1 c_5
      refine lv_iload_n hx hb0 dX9_bitsOf_20 rfl (lv_at hl 0 rfl) ?_
      exact hret _ ls _ _ v1 M L dX9_bitsOf_21 rfl hw hW
    · replace hw := hw.2 c_5
      obtain ⟨a_8, e_8⟩ : ∃ y : Int32, y = v1 + (1 : Int32) := ⟨_, rfl⟩
      replace hw := hw a_8 e_8
      refine lv_iinc (v := a_8) (lv' := [(1, .int a_8), (2, .int v2)]) hx hb0 dX9_bitsOf_8 hl (k := 0) rfl (by rw [e_8]; rfl) (by decide) rfl (fun ls hl => ?_)
      refine lv_iload_n hx hb0 dX9_bitsOf_11 rfl (lv_at hl 1 rfl) ?_
      refine lv_iload_n hx hb0 dX9_bitsOf_12 rfl (lv_at hl 1 rfl) ?_
      refine lv_iconst (v := (1 : Int32)) hx hb0 dX9_bitsOf_13 (by decide) ?_
      refine lv_isub hx hb0 dX9_bitsOf_14 ?_
      refine lv_iand hx hb0 dX9_bitsOf_15 ?_
      refine lv_topi (fun a_16 e_16 => ?_)
      replace hw := hw a_16 e_16
      refine lv_istore_n (lv' := [(2, .int a_16), (1, .int a_8)]) hx hb0 dX9_bitsOf_16 rfl hl (by decide) rfl (fun ls hl => ?_)
      refine lv_goto (tgt := 4) hx hb0 dX9_bitsOf_17 (by decide) ?_
      exact hK4 M L a_8 a_16 _ _ ls hw hW (lv_sub hl [1, 0] rfl)
set_option maxRecDepth 20000 in
set_option maxHeartbeats 4000000 in
theorem mX9_bitsOf {p : Program} {l : Launch} {e : Env} {s : State} {m : MethodId} {args : Array Value} {below : List Frame} {meth : Method} {c : Code} {cells slots : Nat} {Q : State → Prop} {D : va_G} {cy : Nat → ClassId} {ad : Nat → Nat} {A : Nat → Prop} (X : zCx p rmX9_bitsOf s m args c cells slots cX9_bitsOf 3 RX9 D cy ad A) (post : Int32 → Mm → Ml → Prop) (hret : zRi p l e rmX9_bitsOf s m args below meth c cells slots Q cX9_bitsOf D cy ad A .int post) : ∀ (M : Mm) (L : Ml) (x1 : Int32) (H : Heap) (locs : List Loc) (ls : Array Slot), wpX9_bitsOf x1 M L post → zWd D cy ad A s H locs M L → lv_has ls 3 [(0, .int x1)] → W p l e rmX9_bitsOf s m args below meth c H locs cells slots Q (F0 m 0 ls []) := by
  have hx := X.1.1; have hb0 := X.1.2.1; have hts := X.1.2.2.2.2
  intro M L x1 H locs ls hw hW hl
  unfold wpX9_bitsOf at hw
  refine lv_iconst (v := (0 : Int32)) hx hb0 dX9_bitsOf_0 (by decide) ?_
  refine lv_istore_n (lv' := [(1, .int (0 : Int32)), (0, .int x1)]) hx hb0 dX9_bitsOf_1 rfl hl (by decide) rfl (fun ls hl => ?_)
  refine lv_iload_n hx hb0 dX9_bitsOf_2 rfl (lv_at hl 1 rfl) ?_
  refine lv_istore_n (lv' := [(2, .int x1), (1, .int (0 : Int32)), (0, .int x1)]) hx hb0 dX9_bitsOf_3 rfl hl (by decide) rfl (fun ls hl => ?_)
  obtain ⟨n_4, hw⟩ := hw
  exact mX9_bitsOf_4 X post hret n_4 M L (0 : Int32) x1 _ _ ls hw hW (lv_sub hl [1, 0] rfl)
theorem kX9_bitsOf (l : Launch) (D : va_G) (cy : Nat → ClassId) (ad : Nat → Nat) (hi : zInj ad) (x1 : Int32) : zMi l yX9_bitsOf (.code yX9_bitsOf cX9_bitsOf 3 (some .int) :: zG) rmX9_bitsOf D cy ad [.int x1] (wpX9_bitsOf x1) :=
  zMi_of (by decide +kernel) (Nat.le_of_ble_eq_true rfl) hi (fun X M L post _ hret ls hl hw hW => mX9_bitsOf X post hret M L x1 _ _ ls hw hW hl)
abbrev rmX9_isFlake : Room := { frames := 1, cells := 0, slots := 0, locals := 25 }
set_option maxRecDepth 20000 in
set_option maxHeartbeats 4000000 in
theorem mX9_isFlake_29 {p : Program} {l : Launch} {e : Env} {s : State} {m : MethodId} {args : Array Value} {below : List Frame} {meth : Method} {c : Code} {cells slots : Nat} {Q : State → Prop} {D : va_G} {cy : Nat → ClassId} {ad : Nat → Nat} {A : Nat → Prop} (X : zCx p rmX9_isFlake s m args c cells slots cX9_isFlake 2 RX9 D cy ad A) (post : Int32 → Mm → Ml → Prop) (hret : zRi p l e rmX9_isFlake s m args below meth c cells slots Q cX9_isFlake D cy ad A .boolean post) : ∀ (M : Mm) (L : Ml) (s0 : Int32) (H : Heap) (locs : List Loc) (ls : Array Slot), wpX9_isFlake_29 post M L s0 → zWd D cy ad A s H locs M L → lv_has ls 2 [] → W p l e rmX9_isFlake s m args below meth c H locs cells slots Q (F0 m 29 ls [.int s0]) := by
  have hx := X.1.1; have hb0 := X.1.2.1; have hts := X.1.2.2.2.2
  intro M L s0 H locs ls hw hW hl
  unfold wpX9_isFlake_29 at hw
  exact hret _ ls _ _ s0 M L dX9_isFlake_29 (z_bool hw.1) hw.2 hW
set_option maxRecDepth 20000 in
set_option maxHeartbeats 4000000 in
theorem mX9_isFlake_28 {p : Program} {l : Launch} {e : Env} {s : State} {m : MethodId} {args : Array Value} {below : List Frame} {meth : Method} {c : Code} {cells slots : Nat} {Q : State → Prop} {D : va_G} {cy : Nat → ClassId} {ad : Nat → Nat} {A : Nat → Prop} (X : zCx p rmX9_isFlake s m args c cells slots cX9_isFlake 2 RX9 D cy ad A) (post : Int32 → Mm → Ml → Prop) (hret : zRi p l e rmX9_isFlake s m args below meth c cells slots Q cX9_isFlake D cy ad A .boolean post) : ∀ (M : Mm) (L : Ml) (H : Heap) (locs : List Loc) (ls : Array Slot), wpX9_isFlake_28 post M L → zWd D cy ad A s H locs M L → lv_has ls 2 [] → W p l e rmX9_isFlake s m args below meth c H locs cells slots Q (F0 m 28 ls []) := by
  have hx := X.1.1; have hb0 := X.1.2.1; have hts := X.1.2.2.2.2
  intro M L H locs ls hw hW hl
  unfold wpX9_isFlake_28 at hw
  refine lv_iconst (v := (0 : Int32)) hx hb0 dX9_isFlake_28 (by decide) ?_
  exact mX9_isFlake_29 X post hret M L (0 : Int32) _ _ ls hw hW (lv_sub hl [] rfl)
set_option maxRecDepth 20000 in
set_option maxHeartbeats 4000000 in
theorem mX9_isFlake {p : Program} {l : Launch} {e : Env} {s : State} {m : MethodId} {args : Array Value} {below : List Frame} {meth : Method} {c : Code} {cells slots : Nat} {Q : State → Prop} {D : va_G} {cy : Nat → ClassId} {ad : Nat → Nat} {A : Nat → Prop} (X : zCx p rmX9_isFlake s m args c cells slots cX9_isFlake 2 RX9 D cy ad A) (post : Int32 → Mm → Ml → Prop) (hret : zRi p l e rmX9_isFlake s m args below meth c cells slots Q cX9_isFlake D cy ad A .boolean post) : ∀ (M : Mm) (L : Ml) (x1 : Int32) (H : Heap) (locs : List Loc) (ls : Array Slot), wpX9_isFlake x1 M L post → zWd D cy ad A s H locs M L → lv_has ls 2 [(0, .ref (ad 42)), (1, .int x1)] → W p l e rmX9_isFlake s m args below meth c H locs cells slots Q (F0 m 0 ls []) := by
  have hx := X.1.1; have hb0 := X.1.2.1; have hts := X.1.2.2.2.2
  intro M L x1 H locs ls hw hW hl
  unfold wpX9_isFlake at hw
  refine lv_iload_n hx hb0 dX9_isFlake_0 rfl (lv_at hl 1 rfl) ?_
  refine lv_i2l hx hb0 dX9_isFlake_1 rfl ?_
  refine lv_lconst (v := (0 : Int64)) hx hb0 dX9_isFlake_2 (by decide) ?_
  refine lv_ldc2 (v := (7 : Int64)) hx hb0 X.1.2.2.2.1 (hts _ zk_X9_84) dX9_isFlake_3 ?_
  refine z_Si X zc_X9_in zt_X9_in zl_X9_86 rfl ⟨rfl, rfl⟩ ⟨Nat.le_of_ble_eq_true rfl, Nat.le_of_ble_eq_true rfl⟩ (kX9_in l D cy ad X.2.2.2.1 (x1.toInt64) (0 : Int64) (7 : Int64)) hW hw hl.1 rfl rfl (Nat.le_of_ble_eq_true rfl) dX9_isFlake_6 (fun r_6 M_6 L_6 H_6 locs_6 hw hW => ?_)
  refine lv_if_eq (tgt := 28) hx hb0 dX9_isFlake_9 (by decide) (fun c_9 => ?_) (fun c_9 => ?_)
  · replace hw := hw.1 c_9
    exact mX9_isFlake_28 X post hret M_6 L_6 _ _ ls hw hW (lv_sub hl [] rfl)
  · replace hw := hw.2 c_9
    refine lv_aload_n hx hb0 dX9_isFlake_12 rfl (lv_at hl 0 rfl) ?_
    refine z_getI X hW zC7 zF_42_0 (by decide) rfl zl_X9_90 dX9_isFlake_13 ?_
    refine lv_iload_n hx hb0 dX9_isFlake_16 rfl (lv_at hl 1 rfl) ?_
    refine lv_ishr hx hb0 dX9_isFlake_17 ?_
    refine lv_iconst (v := (1 : Int32)) hx hb0 dX9_isFlake_18 (by decide) ?_
    refine lv_iand hx hb0 dX9_isFlake_19 ?_
    refine lv_iconst (v := (1 : Int32)) hx hb0 dX9_isFlake_20 (by decide) ?_
    refine lv_icmp_ne (tgt := 28) hx hb0 dX9_isFlake_21 (by decide) (fun c_21 => ?_) (fun c_21 => ?_)
    · replace hw := hw.1 c_21
      exact mX9_isFlake_28 X post hret M_6 L_6 _ _ ls hw hW (lv_sub hl [] rfl)
    · replace hw := hw.2 c_21
      refine lv_iconst (v := (1 : Int32)) hx hb0 dX9_isFlake_24 (by decide) ?_
      refine lv_goto (tgt := 29) hx hb0 dX9_isFlake_25 (by decide) ?_
      exact mX9_isFlake_29 X post hret M_6 L_6 (1 : Int32) _ _ ls hw hW (lv_sub hl [] rfl)
theorem kX9_isFlake (l : Launch) (D : va_G) (cy : Nat → ClassId) (ad : Nat → Nat) (hi : zInj ad) (x1 : Int32) : zMi l yX9_isFlake (.code yX9_isFlake cX9_isFlake 2 (some .boolean) :: zG) rmX9_isFlake D cy ad [.ref (ad 42), .int x1] (wpX9_isFlake x1) :=
  zMi_of (by decide +kernel) (Nat.le_of_ble_eq_true rfl) hi (fun X M L post _ hret ls hl hw hW => mX9_isFlake X post hret M L x1 _ _ ls hw hW hl)
abbrev rmX9_isOne : Room := { frames := 1, cells := 0, slots := 0, locals := 25 }
set_option maxRecDepth 20000 in
set_option maxHeartbeats 4000000 in
theorem mX9_isOne {p : Program} {l : Launch} {e : Env} {s : State} {m : MethodId} {args : Array Value} {below : List Frame} {meth : Method} {c : Code} {cells slots : Nat} {Q : State → Prop} {D : va_G} {cy : Nat → ClassId} {ad : Nat → Nat} {A : Nat → Prop} (X : zCx p rmX9_isOne s m args c cells slots cX9_isOne 1 RX9 D cy ad A) (post : Int32 → Mm → Ml → Prop) (hret : zRi p l e rmX9_isOne s m args below meth c cells slots Q cX9_isOne D cy ad A .boolean post) : ∀ (M : Mm) (L : Ml) (x1 : Int32) (H : Heap) (locs : List Loc) (ls : Array Slot), wpX9_isOne x1 M L post → zWd D cy ad A s H locs M L → lv_has ls 1 [(0, .int x1)] → W p l e rmX9_isOne s m args below meth c H locs cells slots Q (F0 m 0 ls []) := by
  have hx := X.1.1; have hb0 := X.1.2.1; have hts := X.1.2.2.2.2
  intro M L x1 H locs ls hw hW hl
  unfold wpX9_isOne at hw
  refine lv_iload_n hx hb0 dX9_isOne_0 rfl (lv_at hl 0 rfl) ?_
  refine lv_i2l hx hb0 dX9_isOne_1 rfl ?_
  refine lv_lconst (v := (0 : Int64)) hx hb0 dX9_isOne_2 (by decide) ?_
  refine lv_ldc2 (v := (5 : Int64)) hx hb0 X.1.2.2.2.1 (hts _ zk_X9_94) dX9_isOne_3 ?_
  refine z_Si X zc_X9_in zt_X9_in zl_X9_86 rfl ⟨rfl, rfl⟩ ⟨Nat.le_of_ble_eq_true rfl, Nat.le_of_ble_eq_true rfl⟩ (kX9_in l D cy ad X.2.2.2.1 (x1.toInt64) (0 : Int64) (5 : Int64)) hW hw hl.1 rfl rfl (Nat.le_of_ble_eq_true rfl) dX9_isOne_6 (fun r_6 M_6 L_6 H_6 locs_6 hw hW => ?_)
  exact hret _ ls _ _ r_6 M_6 L_6 dX9_isOne_9 (z_bool hw.1) hw.2 hW
theorem kX9_isOne (l : Launch) (D : va_G) (cy : Nat → ClassId) (ad : Nat → Nat) (hi : zInj ad) (x1 : Int32) : zMi l yX9_isOne (.code yX9_isOne cX9_isOne 1 (some .boolean) :: zG) rmX9_isOne D cy ad [.int x1] (wpX9_isOne x1) :=
  zMi_of (by decide +kernel) (Nat.le_of_ble_eq_true rfl) hi (fun X M L post _ hret ls hl hw hW => mX9_isOne X post hret M L x1 _ _ ls hw hW hl)
abbrev rmX9_isArm : Room := { frames := 1, cells := 0, slots := 0, locals := 25 }
set_option maxRecDepth 20000 in
set_option maxHeartbeats 4000000 in
theorem mX9_isArm {p : Program} {l : Launch} {e : Env} {s : State} {m : MethodId} {args : Array Value} {below : List Frame} {meth : Method} {c : Code} {cells slots : Nat} {Q : State → Prop} {D : va_G} {cy : Nat → ClassId} {ad : Nat → Nat} {A : Nat → Prop} (X : zCx p rmX9_isArm s m args c cells slots cX9_isArm 1 RX9 D cy ad A) (post : Int32 → Mm → Ml → Prop) (hret : zRi p l e rmX9_isArm s m args below meth c cells slots Q cX9_isArm D cy ad A .boolean post) : ∀ (M : Mm) (L : Ml) (x1 : Int32) (H : Heap) (locs : List Loc) (ls : Array Slot), wpX9_isArm x1 M L post → zWd D cy ad A s H locs M L → lv_has ls 1 [(0, .int x1)] → W p l e rmX9_isArm s m args below meth c H locs cells slots Q (F0 m 0 ls []) := by
  have hx := X.1.1; have hb0 := X.1.2.1; have hts := X.1.2.2.2.2
  intro M L x1 H locs ls hw hW hl
  unfold wpX9_isArm at hw
  refine lv_iload_n hx hb0 dX9_isArm_0 rfl (lv_at hl 0 rfl) ?_
  refine lv_i2l hx hb0 dX9_isArm_1 rfl ?_
  refine lv_lconst (v := (0 : Int64)) hx hb0 dX9_isArm_2 (by decide) ?_
  refine lv_ldc2 (v := (255 : Int64)) hx hb0 X.1.2.2.2.1 (hts _ zk_X9_96) dX9_isArm_3 ?_
  refine z_Si X zc_X9_in zt_X9_in zl_X9_86 rfl ⟨rfl, rfl⟩ ⟨Nat.le_of_ble_eq_true rfl, Nat.le_of_ble_eq_true rfl⟩ (kX9_in l D cy ad X.2.2.2.1 (x1.toInt64) (0 : Int64) (255 : Int64)) hW hw hl.1 rfl rfl (Nat.le_of_ble_eq_true rfl) dX9_isArm_6 (fun r_6 M_6 L_6 H_6 locs_6 hw hW => ?_)
  exact hret _ ls _ _ r_6 M_6 L_6 dX9_isArm_9 (z_bool hw.1) hw.2 hW
theorem kX9_isArm (l : Launch) (D : va_G) (cy : Nat → ClassId) (ad : Nat → Nat) (hi : zInj ad) (x1 : Int32) : zMi l yX9_isArm (.code yX9_isArm cX9_isArm 1 (some .boolean) :: zG) rmX9_isArm D cy ad [.int x1] (wpX9_isArm x1) :=
  zMi_of (by decide +kernel) (Nat.le_of_ble_eq_true rfl) hi (fun X M L post _ hret ls hl hw hW => mX9_isArm X post hret M L x1 _ _ ls hw hW hl)
abbrev rmX9_flake : Room := { frames := 2, cells := 0, slots := 0, locals := 45 }
set_option maxRecDepth 20000 in
set_option maxHeartbeats 4000000 in
theorem mX9_flake_20 {p : Program} {l : Launch} {e : Env} {s : State} {m : MethodId} {args : Array Value} {below : List Frame} {meth : Method} {c : Code} {cells slots : Nat} {Q : State → Prop} {D : va_G} {cy : Nat → ClassId} {ad : Nat → Nat} {A : Nat → Prop} (X : zCx p rmX9_flake s m args c cells slots cX9_flake 6 RX9 D cy ad A) (post : Int32 → Mm → Ml → Prop) (hret : zRi p l e rmX9_flake s m args below meth c cells slots Q cX9_flake D cy ad A .int post) : ∀ (M : Mm) (L : Ml) (H : Heap) (locs : List Loc) (ls : Array Slot), wpX9_flake_20 post M L → zWd D cy ad A s H locs M L → lv_has ls 6 [] → W p l e rmX9_flake s m args below meth c H locs cells slots Q (F0 m 20 ls []) := by
  have hx := X.1.1; have hb0 := X.1.2.1; have hts := X.1.2.2.2.2
  intro M L H locs ls hw hW hl
  unfold wpX9_flake_20 at hw
  refine lv_iconst (v := (-1 : Int32)) hx hb0 dX9_flake_20 (by decide) ?_
  exact hret _ ls _ _ (-1 : Int32) M L dX9_flake_21 rfl hw hW
set_option maxRecDepth 20000 in
set_option maxHeartbeats 4000000 in
theorem mX9_flake_54 {p : Program} {l : Launch} {e : Env} {s : State} {m : MethodId} {args : Array Value} {below : List Frame} {meth : Method} {c : Code} {cells slots : Nat} {Q : State → Prop} {D : va_G} {cy : Nat → ClassId} {ad : Nat → Nat} {A : Nat → Prop} (X : zCx p rmX9_flake s m args c cells slots cX9_flake 6 RX9 D cy ad A) (post : Int32 → Mm → Ml → Prop) (hret : zRi p l e rmX9_flake s m args below meth c cells slots Q cX9_flake D cy ad A .int post) : ∀ (M : Mm) (L : Ml) (H : Heap) (locs : List Loc) (ls : Array Slot), wpX9_flake_54 post M L → zWd D cy ad A s H locs M L → lv_has ls 6 [] → W p l e rmX9_flake s m args below meth c H locs cells slots Q (F0 m 54 ls []) := by
  have hx := X.1.1; have hb0 := X.1.2.1; have hts := X.1.2.2.2.2
  intro M L H locs ls hw hW hl
  unfold wpX9_flake_54 at hw
  refine lv_bipush (v := (-2 : Int32)) hx hb0 dX9_flake_54 (by decide) ?_
  exact hret _ ls _ _ (-2 : Int32) M L dX9_flake_56 rfl hw hW
set_option maxRecDepth 20000 in
set_option maxHeartbeats 4000000 in
theorem mX9_flake {p : Program} {l : Launch} {e : Env} {s : State} {m : MethodId} {args : Array Value} {below : List Frame} {meth : Method} {c : Code} {cells slots : Nat} {Q : State → Prop} {D : va_G} {cy : Nat → ClassId} {ad : Nat → Nat} {A : Nat → Prop} (X : zCx p rmX9_flake s m args c cells slots cX9_flake 6 RX9 D cy ad A) (post : Int32 → Mm → Ml → Prop) (hret : zRi p l e rmX9_flake s m args below meth c cells slots Q cX9_flake D cy ad A .int post) : ∀ (M : Mm) (L : Ml) (x1 : Int32) (x2 : Int32) (x3 : Int32) (x4 : Int32) (x5 : Int32) (H : Heap) (locs : List Loc) (ls : Array Slot), wpX9_flake x1 x2 x3 x4 x5 M L post → zWd D cy ad A s H locs M L → lv_has ls 6 [(0, .ref (ad 42)), (1, .int x1), (2, .int x2), (3, .int x3), (4, .int x4), (5, .int x5)] → W p l e rmX9_flake s m args below meth c H locs cells slots Q (F0 m 0 ls []) := by
  have hx := X.1.1; have hb0 := X.1.2.1; have hts := X.1.2.2.2.2
  intro M L x1 x2 x3 x4 x5 H locs ls hw hW hl
  unfold wpX9_flake at hw
  refine lv_iload_n hx hb0 dX9_flake_0 rfl (lv_at hl 1 rfl) ?_
  refine lv_i2l hx hb0 dX9_flake_1 rfl ?_
  refine lv_lconst (v := (0 : Int64)) hx hb0 dX9_flake_2 (by decide) ?_
  refine lv_ldc2 (v := (7 : Int64)) hx hb0 X.1.2.2.2.1 (hts _ zk_X9_84) dX9_flake_3 ?_
  refine z_Si X zc_X9_in zt_X9_in zl_X9_86 rfl ⟨rfl, rfl⟩ ⟨Nat.le_of_ble_eq_true rfl, Nat.le_of_ble_eq_true rfl⟩ (kX9_in l D cy ad X.2.2.2.1 (x1.toInt64) (0 : Int64) (7 : Int64)) hW hw hl.1 rfl rfl (Nat.le_of_ble_eq_true rfl) dX9_flake_6 (fun r_6 M_6 L_6 H_6 locs_6 hw hW => ?_)
  refine lv_if_eq (tgt := 20) hx hb0 dX9_flake_9 (by decide) (fun c_9 => ?_) (fun c_9 => ?_)
  · replace hw := hw.1 c_9
    exact mX9_flake_20 X post hret M_6 L_6 _ _ ls hw hW (lv_sub hl [] rfl)
  · replace hw := hw.2 c_9
    refine lv_iload hx hb0 dX9_flake_12 (lv_at hl 5 rfl) ?_
    refine z_Si X zc_X9_isOne zt_X9_isOne zl_X9_98 rfl ⟨rfl, rfl⟩ ⟨Nat.le_of_ble_eq_true rfl, Nat.le_of_ble_eq_true rfl⟩ (kX9_isOne l D cy ad X.2.2.2.1 x5) hW hw hl.1 rfl rfl (Nat.le_of_ble_eq_true rfl) dX9_flake_14 (fun r_14 M_14 L_14 H_14 locs_14 hw hW => ?_)
    refine lv_if_ne (tgt := 22) hx hb0 dX9_flake_17 (by decide) (fun c_17 => ?_) (fun c_17 => ?_)
    · replace hw := hw.1 c_17
      refine lv_iload_n hx hb0 dX9_flake_22 rfl (lv_at hl 2 rfl) ?_
      refine z_Si X zc_X9_isArm zt_X9_isArm zl_X9_102 rfl ⟨rfl, rfl⟩ ⟨Nat.le_of_ble_eq_true rfl, Nat.le_of_ble_eq_true rfl⟩ (kX9_isArm l D cy ad X.2.2.2.1 x2) hW hw hl.1 rfl rfl (Nat.le_of_ble_eq_true rfl) dX9_flake_23 (fun r_23 M_23 L_23 H_23 locs_23 hw hW => ?_)
      refine lv_if_eq (tgt := 54) hx hb0 dX9_flake_26 (by decide) (fun c_26 => ?_) (fun c_26 => ?_)
      · replace hw := hw.1 c_26
        exact mX9_flake_54 X post hret M_23 L_23 _ _ ls hw hW (lv_sub hl [] rfl)
      · replace hw := hw.2 c_26
        refine lv_iload_n hx hb0 dX9_flake_29 rfl (lv_at hl 3 rfl) ?_
        refine lv_i2l hx hb0 dX9_flake_30 rfl ?_
        refine lv_lconst (v := (0 : Int64)) hx hb0 dX9_flake_31 (by decide) ?_
        refine lv_ldc2 (v := (15 : Int64)) hx hb0 X.1.2.2.2.1 (hts _ zk_X9_105) dX9_flake_32 ?_
        refine z_Si X zc_X9_in zt_X9_in zl_X9_86 rfl ⟨rfl, rfl⟩ ⟨Nat.le_of_ble_eq_true rfl, Nat.le_of_ble_eq_true rfl⟩ (kX9_in l D cy ad X.2.2.2.1 (x3.toInt64) (0 : Int64) (15 : Int64)) hW hw hl.1 rfl rfl (Nat.le_of_ble_eq_true rfl) dX9_flake_35 (fun r_35 M_35 L_35 H_35 locs_35 hw hW => ?_)
        refine lv_if_eq (tgt := 54) hx hb0 dX9_flake_38 (by decide) (fun c_38 => ?_) (fun c_38 => ?_)
        · replace hw := hw.1 c_38
          exact mX9_flake_54 X post hret M_35 L_35 _ _ ls hw hW (lv_sub hl [] rfl)
        · replace hw := hw.2 c_38
          refine lv_iload hx hb0 dX9_flake_41 (lv_at hl 4 rfl) ?_
          refine lv_i2l hx hb0 dX9_flake_43 rfl ?_
          refine lv_lconst (v := (0 : Int64)) hx hb0 dX9_flake_44 (by decide) ?_
          refine lv_ldc2 (v := (9 : Int64)) hx hb0 X.1.2.2.2.1 (hts _ zk_X9_107) dX9_flake_45 ?_
          refine z_Si X zc_X9_in zt_X9_in zl_X9_86 rfl ⟨rfl, rfl⟩ ⟨Nat.le_of_ble_eq_true rfl, Nat.le_of_ble_eq_true rfl⟩ (kX9_in l D cy ad X.2.2.2.1 (x4.toInt64) (0 : Int64) (9 : Int64)) hW hw hl.1 rfl rfl (Nat.le_of_ble_eq_true rfl) dX9_flake_48 (fun r_48 M_48 L_48 H_48 locs_48 hw hW => ?_)
          refine lv_if_ne (tgt := 57) hx hb0 dX9_flake_51 (by decide) (fun c_51 => ?_) (fun c_51 => ?_)
          · replace hw := hw.1 c_51
            refine lv_aload_n hx hb0 dX9_flake_57 rfl (lv_at hl 0 rfl) ?_
            refine lv_dup hx hb0 dX9_flake_58 rfl ?_
            refine z_getI X hW zC7 zF_42_0 (by decide) rfl zl_X9_90 dX9_flake_59 ?_
            refine lv_iconst (v := (1 : Int32)) hx hb0 dX9_flake_62 (by decide) ?_
            refine lv_iload_n hx hb0 dX9_flake_63 rfl (lv_at hl 1 rfl) ?_
            refine lv_ishl hx hb0 dX9_flake_64 ?_
            refine lv_ior hx hb0 dX9_flake_65 ?_
            refine z_put (ty := .int) X hW zC7 zF_42_0 (by decide) rfl zl_X9_90 rfl (by decide +kernel) rfl rfl dX9_flake_66 (fun M_66 H_66 locs_66 e_66 hW => ?_)
            replace hw := hw M_66 e_66
            refine lv_aload_n hx hb0 dX9_flake_69 rfl (lv_at hl 0 rfl) ?_
            refine z_getR (k2 := 43) X hW zC7 zR_42_1 (by decide) rfl zl_X9_7 dX9_flake_70 ?_
            refine lv_iload_n hx hb0 dX9_flake_73 rfl (lv_at hl 1 rfl) ?_
            refine lv_iload_n hx hb0 dX9_flake_74 rfl (lv_at hl 2 rfl) ?_
            obtain ⟨g_75, hw⟩ := hw
            refine z_iast X hW zI_43 g_75 dX9_flake_75 (fun M_75 H_75 locs_75 e_75 hW => ?_)
            replace hw := hw M_75 e_75
            refine lv_aload_n hx hb0 dX9_flake_76 rfl (lv_at hl 0 rfl) ?_
            refine z_getR (k2 := 44) X hW zC7 zR_42_2 (by decide) rfl zl_X9_13 dX9_flake_77 ?_
            refine lv_iload_n hx hb0 dX9_flake_80 rfl (lv_at hl 1 rfl) ?_
            refine lv_iload_n hx hb0 dX9_flake_81 rfl (lv_at hl 3 rfl) ?_
            obtain ⟨g_82, hw⟩ := hw
            refine z_iast X hW zI_44 g_82 dX9_flake_82 (fun M_82 H_82 locs_82 e_82 hW => ?_)
            replace hw := hw M_82 e_82
            refine lv_aload_n hx hb0 dX9_flake_83 rfl (lv_at hl 0 rfl) ?_
            refine z_getR (k2 := 45) X hW zC7 zR_42_3 (by decide) rfl zl_X9_16 dX9_flake_84 ?_
            refine lv_iload_n hx hb0 dX9_flake_87 rfl (lv_at hl 1 rfl) ?_
            refine lv_iload hx hb0 dX9_flake_88 (lv_at hl 4 rfl) ?_
            obtain ⟨g_90, hw⟩ := hw
            refine z_iast X hW zI_45 g_90 dX9_flake_90 (fun M_90 H_90 locs_90 e_90 hW => ?_)
            replace hw := hw M_90 e_90
            refine lv_aload_n hx hb0 dX9_flake_91 rfl (lv_at hl 0 rfl) ?_
            refine z_getR (k2 := 46) X hW zC7 zR_42_4 (by decide) rfl zl_X9_19 dX9_flake_92 ?_
            refine lv_iload_n hx hb0 dX9_flake_95 rfl (lv_at hl 1 rfl) ?_
            refine lv_iload hx hb0 dX9_flake_96 (lv_at hl 5 rfl) ?_
            obtain ⟨g_98, hw⟩ := hw
            refine z_iast X hW zI_46 g_98 dX9_flake_98 (fun M_98 H_98 locs_98 e_98 hW => ?_)
            replace hw := hw M_98 e_98
            refine lv_aload_n hx hb0 dX9_flake_99 rfl (lv_at hl 0 rfl) ?_
            refine z_getR (k2 := 47) X hW zC7 zR_42_5 (by decide) rfl zl_X9_22 dX9_flake_100 ?_
            refine lv_iload_n hx hb0 dX9_flake_103 rfl (lv_at hl 1 rfl) ?_
            refine lv_bipush (v := (-6 : Int32)) hx hb0 dX9_flake_104 (by decide) ?_
            obtain ⟨g_106, hw⟩ := hw
            refine z_iast X hW zI_47 g_106 dX9_flake_106 (fun M_106 H_106 locs_106 e_106 hW => ?_)
            replace hw := hw M_106 e_106
            refine lv_aload_n hx hb0 dX9_flake_107 rfl (lv_at hl 0 rfl) ?_
            refine z_getI X hW zC7 zF_42_0 (by decide) rfl zl_X9_90 dX9_flake_108 ?_
            refine z_Si X zc_X9_bitsOf zt_X9_bitsOf zl_X9_109 rfl ⟨rfl, rfl⟩ ⟨Nat.le_of_ble_eq_true rfl, Nat.le_of_ble_eq_true rfl⟩ (kX9_bitsOf l D cy ad X.2.2.2.1 (M_106 42 0)) hW hw hl.1 rfl rfl (Nat.le_of_ble_eq_true rfl) dX9_flake_111 (fun r_111 M_111 L_111 H_111 locs_111 hw hW => ?_)
            exact hret _ ls _ _ r_111 M_111 L_111 dX9_flake_114 rfl hw hW
          · replace hw := hw.2 c_51
            exact mX9_flake_54 X post hret M_48 L_48 _ _ ls hw hW (lv_sub hl [] rfl)
    · replace hw := hw.2 c_17
      exact mX9_flake_20 X post hret M_14 L_14 _ _ ls hw hW (lv_sub hl [] rfl)
theorem kX9_flake (l : Launch) (D : va_G) (cy : Nat → ClassId) (ad : Nat → Nat) (hi : zInj ad) (x1 : Int32) (x2 : Int32) (x3 : Int32) (x4 : Int32) (x5 : Int32) : zMi l yX9_flake (.code yX9_flake cX9_flake 6 (some .int) :: zG) rmX9_flake D cy ad [.ref (ad 42), .int x1, .int x2, .int x3, .int x4, .int x5] (wpX9_flake x1 x2 x3 x4 x5) :=
  zMi_of (by decide +kernel) (Nat.le_of_ble_eq_true rfl) hi (fun X M L post _ hret ls hl hw hW => mX9_flake X post hret M L x1 x2 x3 x4 x5 _ _ ls hw hW hl)
abbrev rmX9_melt : Room := { frames := 2, cells := 0, slots := 0, locals := 46 }
set_option maxRecDepth 20000 in
set_option maxHeartbeats 4000000 in
theorem mX9_melt {p : Program} {l : Launch} {e : Env} {s : State} {m : MethodId} {args : Array Value} {below : List Frame} {meth : Method} {c : Code} {cells slots : Nat} {Q : State → Prop} {D : va_G} {cy : Nat → ClassId} {ad : Nat → Nat} {A : Nat → Prop} (X : zCx p rmX9_melt s m args c cells slots cX9_melt 2 RX9 D cy ad A) (post : Int32 → Mm → Ml → Prop) (hret : zRi p l e rmX9_melt s m args below meth c cells slots Q cX9_melt D cy ad A .int post) : ∀ (M : Mm) (L : Ml) (x1 : Int32) (H : Heap) (locs : List Loc) (ls : Array Slot), wpX9_melt x1 M L post → zWd D cy ad A s H locs M L → lv_has ls 2 [(0, .ref (ad 42)), (1, .int x1)] → W p l e rmX9_melt s m args below meth c H locs cells slots Q (F0 m 0 ls []) := by
  have hx := X.1.1; have hb0 := X.1.2.1; have hts := X.1.2.2.2.2
  intro M L x1 H locs ls hw hW hl
  unfold wpX9_melt at hw
  refine lv_aload_n hx hb0 dX9_melt_0 rfl (lv_at hl 0 rfl) ?_
  refine lv_iload_n hx hb0 dX9_melt_1 rfl (lv_at hl 1 rfl) ?_
  refine z_Vi X zO_42 zC7 zc_X9_isFlake zs_X9_isFlake zl_X9_113 rfl ⟨rfl, rfl⟩ ⟨Nat.le_of_ble_eq_true rfl, Nat.le_of_ble_eq_true rfl⟩ (kX9_isFlake l D cy ad X.2.2.2.1 x1) hW hw hl.1 rfl rfl (Nat.le_of_ble_eq_true rfl) dX9_melt_2 (fun r_2 M_2 L_2 H_2 locs_2 hw hW => ?_)
  refine lv_if_ne (tgt := 10) hx hb0 dX9_melt_5 (by decide) (fun c_5 => ?_) (fun c_5 => ?_)
  · replace hw := hw.1 c_5
    refine lv_aload_n hx hb0 dX9_melt_10 rfl (lv_at hl 0 rfl) ?_
    refine lv_dup hx hb0 dX9_melt_11 rfl ?_
    refine z_getI X hW zC7 zF_42_0 (by decide) rfl zl_X9_90 dX9_melt_12 ?_
    refine lv_iconst (v := (1 : Int32)) hx hb0 dX9_melt_15 (by decide) ?_
    refine lv_iload_n hx hb0 dX9_melt_16 rfl (lv_at hl 1 rfl) ?_
    refine lv_ishl hx hb0 dX9_melt_17 ?_
    refine lv_iconst (v := (-1 : Int32)) hx hb0 dX9_melt_18 (by decide) ?_
    refine lv_ixor hx hb0 dX9_melt_19 ?_
    refine lv_iand hx hb0 dX9_melt_20 ?_
    refine z_put (ty := .int) X hW zC7 zF_42_0 (by decide) rfl zl_X9_90 rfl (by decide +kernel) rfl rfl dX9_melt_21 (fun M_21 H_21 locs_21 e_21 hW => ?_)
    replace hw := hw M_21 e_21
    refine lv_aload_n hx hb0 dX9_melt_24 rfl (lv_at hl 0 rfl) ?_
    refine z_getI X hW zC7 zF_42_0 (by decide) rfl zl_X9_90 dX9_melt_25 ?_
    refine z_Si X zc_X9_bitsOf zt_X9_bitsOf zl_X9_109 rfl ⟨rfl, rfl⟩ ⟨Nat.le_of_ble_eq_true rfl, Nat.le_of_ble_eq_true rfl⟩ (kX9_bitsOf l D cy ad X.2.2.2.1 (M_21 42 0)) hW hw hl.1 rfl rfl (Nat.le_of_ble_eq_true rfl) dX9_melt_28 (fun r_28 M_28 L_28 H_28 locs_28 hw hW => ?_)
    exact hret _ ls _ _ r_28 M_28 L_28 dX9_melt_31 rfl hw hW
  · replace hw := hw.2 c_5
    refine lv_iconst (v := (-1 : Int32)) hx hb0 dX9_melt_8 (by decide) ?_
    exact hret _ ls _ _ (-1 : Int32) M_2 L_2 dX9_melt_9 rfl hw hW
theorem kX9_melt (l : Launch) (D : va_G) (cy : Nat → ClassId) (ad : Nat → Nat) (hi : zInj ad) (x1 : Int32) : zMi l yX9_melt (.code yX9_melt cX9_melt 2 (some .int) :: zG) rmX9_melt D cy ad [.ref (ad 42), .int x1] (wpX9_melt x1) :=
  zMi_of (by decide +kernel) (Nat.le_of_ble_eq_true rfl) hi (fun X M L post _ hret ls hl hw hW => mX9_melt X post hret M L x1 _ _ ls hw hW hl)
abbrev rmX9_stand : Room := { frames := 2, cells := 0, slots := 0, locals := 45 }
set_option maxRecDepth 20000 in
set_option maxHeartbeats 4000000 in
theorem mX9_stand {p : Program} {l : Launch} {e : Env} {s : State} {m : MethodId} {args : Array Value} {below : List Frame} {meth : Method} {c : Code} {cells slots : Nat} {Q : State → Prop} {D : va_G} {cy : Nat → ClassId} {ad : Nat → Nat} {A : Nat → Prop} (X : zCx p rmX9_stand s m args c cells slots cX9_stand 4 RX9 D cy ad A) (post : Int32 → Mm → Ml → Prop) (hret : zRi p l e rmX9_stand s m args below meth c cells slots Q cX9_stand D cy ad A .int post) : ∀ (M : Mm) (L : Ml) (x1 : Int32) (x2 : Int32) (H : Heap) (locs : List Loc) (ls : Array Slot), wpX9_stand x1 x2 M L post → zWd D cy ad A s H locs M L → lv_has ls 4 [(0, .ref (ad 42)), (1, .int x1), (2, .int x2)] → W p l e rmX9_stand s m args below meth c H locs cells slots Q (F0 m 0 ls []) := by
  have hx := X.1.1; have hb0 := X.1.2.1; have hts := X.1.2.2.2.2
  intro M L x1 x2 H locs ls hw hW hl
  unfold wpX9_stand at hw
  refine lv_iload_n hx hb0 dX9_stand_0 rfl (lv_at hl 1 rfl) ?_
  refine z_Si X zc_X9_isOne zt_X9_isOne zl_X9_98 rfl ⟨rfl, rfl⟩ ⟨Nat.le_of_ble_eq_true rfl, Nat.le_of_ble_eq_true rfl⟩ (kX9_isOne l D cy ad X.2.2.2.1 x1) hW hw hl.1 rfl rfl (Nat.le_of_ble_eq_true rfl) dX9_stand_1 (fun r_1 M_1 L_1 H_1 locs_1 hw hW => ?_)
  refine lv_if_ne (tgt := 9) hx hb0 dX9_stand_4 (by decide) (fun c_4 => ?_) (fun c_4 => ?_)
  · replace hw := hw.1 c_4
    refine lv_iload_n hx hb0 dX9_stand_9 rfl (lv_at hl 2 rfl) ?_
    refine lv_i2l hx hb0 dX9_stand_10 rfl ?_
    refine lv_lconst (v := (0 : Int64)) hx hb0 dX9_stand_11 (by decide) ?_
    refine lv_ldc2 (v := (15 : Int64)) hx hb0 X.1.2.2.2.1 (hts _ zk_X9_105) dX9_stand_12 ?_
    refine z_Si X zc_X9_in zt_X9_in zl_X9_86 rfl ⟨rfl, rfl⟩ ⟨Nat.le_of_ble_eq_true rfl, Nat.le_of_ble_eq_true rfl⟩ (kX9_in l D cy ad X.2.2.2.1 (x2.toInt64) (0 : Int64) (15 : Int64)) hW hw hl.1 rfl rfl (Nat.le_of_ble_eq_true rfl) dX9_stand_15 (fun r_15 M_15 L_15 H_15 locs_15 hw hW => ?_)
    refine lv_if_ne (tgt := 24) hx hb0 dX9_stand_18 (by decide) (fun c_18 => ?_) (fun c_18 => ?_)
    · replace hw := hw.1 c_18
      refine lv_aload_n hx hb0 dX9_stand_24 rfl (lv_at hl 0 rfl) ?_
      refine z_getR (k2 := 48) X hW zC7 zR_42_6 (by decide) rfl zl_X9_25 dX9_stand_25 ?_
      refine lv_iload_n hx hb0 dX9_stand_28 rfl (lv_at hl 1 rfl) ?_
      obtain ⟨g_29, hw⟩ := hw
      refine z_iald X hW zI_48 g_29 dX9_stand_29 ?_
      refine lv_topi (fun a_30 e_30 => ?_)
      replace hw := hw a_30 e_30
      refine lv_istore_n (lv' := [(3, .int a_30), (0, .ref (ad 42)), (1, .int x1), (2, .int x2)]) hx hb0 dX9_stand_30 rfl hl (by decide) rfl (fun ls hl => ?_)
      refine lv_aload_n hx hb0 dX9_stand_31 rfl (lv_at hl 1 rfl) ?_
      refine z_getR (k2 := 48) X hW zC7 zR_42_6 (by decide) rfl zl_X9_25 dX9_stand_32 ?_
      refine lv_iload_n hx hb0 dX9_stand_35 rfl (lv_at hl 2 rfl) ?_
      refine lv_iload_n hx hb0 dX9_stand_36 rfl (lv_at hl 3 rfl) ?_
      obtain ⟨g_37, hw⟩ := hw
      refine z_iast X hW zI_48 g_37 dX9_stand_37 (fun M_37 H_37 locs_37 e_37 hW => ?_)
      replace hw := hw M_37 e_37
      refine lv_aload_n hx hb0 dX9_stand_38 rfl (lv_at hl 1 rfl) ?_
      refine z_getR (k2 := 49) X hW zC7 zR_42_7 (by decide) rfl zl_X9_28 dX9_stand_39 ?_
      refine lv_iload_n hx hb0 dX9_stand_42 rfl (lv_at hl 2 rfl) ?_
      refine lv_iconst (v := (0 : Int32)) hx hb0 dX9_stand_43 (by decide) ?_
      obtain ⟨g_44, hw⟩ := hw
      refine z_iast X hW zI_49 g_44 dX9_stand_44 (fun M_44 H_44 locs_44 e_44 hW => ?_)
      replace hw := hw M_44 e_44
      refine lv_iload_n hx hb0 dX9_stand_45 rfl (lv_at hl 0 rfl) ?_
      exact hret _ ls _ _ a_30 M_44 L_15 dX9_stand_46 rfl hw hW
    · replace hw := hw.2 c_18
      refine lv_bipush (v := (-2 : Int32)) hx hb0 dX9_stand_21 (by decide) ?_
      exact hret _ ls _ _ (-2 : Int32) M_15 L_15 dX9_stand_23 rfl hw hW
  · replace hw := hw.2 c_4
    refine lv_iconst (v := (-1 : Int32)) hx hb0 dX9_stand_7 (by decide) ?_
    exact hret _ ls _ _ (-1 : Int32) M_1 L_1 dX9_stand_8 rfl hw hW
theorem kX9_stand (l : Launch) (D : va_G) (cy : Nat → ClassId) (ad : Nat → Nat) (hi : zInj ad) (x1 : Int32) (x2 : Int32) : zMi l yX9_stand (.code yX9_stand cX9_stand 4 (some .int) :: zG) rmX9_stand D cy ad [.ref (ad 42), .int x1, .int x2] (wpX9_stand x1 x2) :=
  zMi_of (by decide +kernel) (Nat.le_of_ble_eq_true rfl) hi (fun X M L post _ hret ls hl hw hW => mX9_stand X post hret M L x1 x2 _ _ ls hw hW hl)
abbrev rmX9_air : Room := { frames := 1, cells := 0, slots := 0, locals := 25 }
set_option maxRecDepth 20000 in
set_option maxHeartbeats 4000000 in
theorem mX9_air_22 {p : Program} {l : Launch} {e : Env} {s : State} {m : MethodId} {args : Array Value} {below : List Frame} {meth : Method} {c : Code} {cells slots : Nat} {Q : State → Prop} {D : va_G} {cy : Nat → ClassId} {ad : Nat → Nat} {A : Nat → Prop} (X : zCx p rmX9_air s m args c cells slots cX9_air 4 RX9 D cy ad A) (post : Int32 → Mm → Ml → Prop) (hret : zRi p l e rmX9_air s m args below meth c cells slots Q cX9_air D cy ad A .int post) : ∀ (M : Mm) (L : Ml) (H : Heap) (locs : List Loc) (ls : Array Slot), wpX9_air_22 post M L → zWd D cy ad A s H locs M L → lv_has ls 4 [] → W p l e rmX9_air s m args below meth c H locs cells slots Q (F0 m 22 ls []) := by
  have hx := X.1.1; have hb0 := X.1.2.1; have hts := X.1.2.2.2.2
  intro M L H locs ls hw hW hl
  unfold wpX9_air_22 at hw
  refine lv_bipush (v := (-2 : Int32)) hx hb0 dX9_air_22 (by decide) ?_
  exact hret _ ls _ _ (-2 : Int32) M L dX9_air_24 rfl hw hW
set_option maxRecDepth 20000 in
set_option maxHeartbeats 4000000 in
theorem mX9_air {p : Program} {l : Launch} {e : Env} {s : State} {m : MethodId} {args : Array Value} {below : List Frame} {meth : Method} {c : Code} {cells slots : Nat} {Q : State → Prop} {D : va_G} {cy : Nat → ClassId} {ad : Nat → Nat} {A : Nat → Prop} (X : zCx p rmX9_air s m args c cells slots cX9_air 4 RX9 D cy ad A) (post : Int32 → Mm → Ml → Prop) (hret : zRi p l e rmX9_air s m args below meth c cells slots Q cX9_air D cy ad A .int post) : ∀ (M : Mm) (L : Ml) (x1 : Int32) (x2 : Int32) (H : Heap) (locs : List Loc) (ls : Array Slot), wpX9_air x1 x2 M L post → zWd D cy ad A s H locs M L → lv_has ls 4 [(0, .ref (ad 42)), (1, .int x1), (2, .int x2)] → W p l e rmX9_air s m args below meth c H locs cells slots Q (F0 m 0 ls []) := by
  have hx := X.1.1; have hb0 := X.1.2.1; have hts := X.1.2.2.2.2
  intro M L x1 x2 H locs ls hw hW hl
  unfold wpX9_air at hw
  refine lv_iload_n hx hb0 dX9_air_0 rfl (lv_at hl 1 rfl) ?_
  refine lv_i2l hx hb0 dX9_air_1 rfl ?_
  refine lv_lconst (v := (0 : Int64)) hx hb0 dX9_air_2 (by decide) ?_
  refine lv_lconst (v := (1 : Int64)) hx hb0 dX9_air_3 (by decide) ?_
  refine z_Si X zc_X9_in zt_X9_in zl_X9_86 rfl ⟨rfl, rfl⟩ ⟨Nat.le_of_ble_eq_true rfl, Nat.le_of_ble_eq_true rfl⟩ (kX9_in l D cy ad X.2.2.2.1 (x1.toInt64) (0 : Int64) (1 : Int64)) hW hw hl.1 rfl rfl (Nat.le_of_ble_eq_true rfl) dX9_air_4 (fun r_4 M_4 L_4 H_4 locs_4 hw hW => ?_)
  refine lv_if_eq (tgt := 22) hx hb0 dX9_air_7 (by decide) (fun c_7 => ?_) (fun c_7 => ?_)
  · replace hw := hw.1 c_7
    exact mX9_air_22 X post hret M_4 L_4 _ _ ls hw hW (lv_sub hl [] rfl)
  · replace hw := hw.2 c_7
    refine lv_iload_n hx hb0 dX9_air_10 rfl (lv_at hl 2 rfl) ?_
    refine lv_i2l hx hb0 dX9_air_11 rfl ?_
    refine lv_lconst (v := (0 : Int64)) hx hb0 dX9_air_12 (by decide) ?_
    refine lv_ldc2 (v := (255 : Int64)) hx hb0 X.1.2.2.2.1 (hts _ zk_X9_96) dX9_air_13 ?_
    refine z_Si X zc_X9_in zt_X9_in zl_X9_86 rfl ⟨rfl, rfl⟩ ⟨Nat.le_of_ble_eq_true rfl, Nat.le_of_ble_eq_true rfl⟩ (kX9_in l D cy ad X.2.2.2.1 (x2.toInt64) (0 : Int64) (255 : Int64)) hW hw hl.1 rfl rfl (Nat.le_of_ble_eq_true rfl) dX9_air_16 (fun r_16 M_16 L_16 H_16 locs_16 hw hW => ?_)
    refine lv_if_ne (tgt := 25) hx hb0 dX9_air_19 (by decide) (fun c_19 => ?_) (fun c_19 => ?_)
    · replace hw := hw.1 c_19
      refine lv_aload_n hx hb0 dX9_air_25 rfl (lv_at hl 0 rfl) ?_
      refine z_getR (k2 := 50) X hW zC7 zR_42_8 (by decide) rfl zl_X9_31 dX9_air_26 ?_
      refine lv_iload_n hx hb0 dX9_air_29 rfl (lv_at hl 1 rfl) ?_
      obtain ⟨g_30, hw⟩ := hw
      refine z_iald X hW zI_50 g_30 dX9_air_30 ?_
      refine lv_topi (fun a_31 e_31 => ?_)
      replace hw := hw a_31 e_31
      refine lv_istore_n (lv' := [(3, .int a_31), (0, .ref (ad 42)), (1, .int x1), (2, .int x2)]) hx hb0 dX9_air_31 rfl hl (by decide) rfl (fun ls hl => ?_)
      refine lv_aload_n hx hb0 dX9_air_32 rfl (lv_at hl 1 rfl) ?_
      refine z_getR (k2 := 50) X hW zC7 zR_42_8 (by decide) rfl zl_X9_31 dX9_air_33 ?_
      refine lv_iload_n hx hb0 dX9_air_36 rfl (lv_at hl 2 rfl) ?_
      refine lv_iload_n hx hb0 dX9_air_37 rfl (lv_at hl 3 rfl) ?_
      obtain ⟨g_38, hw⟩ := hw
      refine z_iast X hW zI_50 g_38 dX9_air_38 (fun M_38 H_38 locs_38 e_38 hW => ?_)
      replace hw := hw M_38 e_38
      refine lv_iload_n hx hb0 dX9_air_39 rfl (lv_at hl 0 rfl) ?_
      exact hret _ ls _ _ a_31 M_38 L_16 dX9_air_40 rfl hw hW
    · replace hw := hw.2 c_19
      exact mX9_air_22 X post hret M_16 L_16 _ _ ls hw hW (lv_sub hl [] rfl)
theorem kX9_air (l : Launch) (D : va_G) (cy : Nat → ClassId) (ad : Nat → Nat) (hi : zInj ad) (x1 : Int32) (x2 : Int32) : zMi l yX9_air (.code yX9_air cX9_air 4 (some .int) :: zG) rmX9_air D cy ad [.ref (ad 42), .int x1, .int x2] (wpX9_air x1 x2) :=
  zMi_of (by decide +kernel) (Nat.le_of_ble_eq_true rfl) hi (fun X M L post _ hret ls hl hw hW => mX9_air X post hret M L x1 x2 _ _ ls hw hW hl)
abbrev rmX9_say : Room := { frames := 1, cells := 0, slots := 0, locals := 25 }
set_option maxRecDepth 20000 in
set_option maxHeartbeats 4000000 in
theorem mX9_say {p : Program} {l : Launch} {e : Env} {s : State} {m : MethodId} {args : Array Value} {below : List Frame} {meth : Method} {c : Code} {cells slots : Nat} {Q : State → Prop} {D : va_G} {cy : Nat → ClassId} {ad : Nat → Nat} {A : Nat → Prop} (X : zCx p rmX9_say s m args c cells slots cX9_say 2 RX9 D cy ad A) (post : Int32 → Mm → Ml → Prop) (hret : zRi p l e rmX9_say s m args below meth c cells slots Q cX9_say D cy ad A .int post) : ∀ (M : Mm) (L : Ml) (x1 : Int32) (H : Heap) (locs : List Loc) (ls : Array Slot), wpX9_say x1 M L post → zWd D cy ad A s H locs M L → lv_has ls 2 [(0, .ref (ad 42)), (1, .int x1)] → W p l e rmX9_say s m args below meth c H locs cells slots Q (F0 m 0 ls []) := by
  have hx := X.1.1; have hb0 := X.1.2.1; have hts := X.1.2.2.2.2
  intro M L x1 H locs ls hw hW hl
  unfold wpX9_say at hw
  refine lv_iload_n hx hb0 dX9_say_0 rfl (lv_at hl 1 rfl) ?_
  refine lv_i2l hx hb0 dX9_say_1 rfl ?_
  refine lv_ldc2 (v := (33 : Int64)) hx hb0 X.1.2.2.2.1 (hts _ zk_X9_116) dX9_say_2 ?_
  refine lv_ldc2 (v := (126 : Int64)) hx hb0 X.1.2.2.2.1 (hts _ zk_X9_118) dX9_say_5 ?_
  refine z_Si X zc_X9_in zt_X9_in zl_X9_86 rfl ⟨rfl, rfl⟩ ⟨Nat.le_of_ble_eq_true rfl, Nat.le_of_ble_eq_true rfl⟩ (kX9_in l D cy ad X.2.2.2.1 (x1.toInt64) (33 : Int64) (126 : Int64)) hW hw hl.1 rfl rfl (Nat.le_of_ble_eq_true rfl) dX9_say_8 (fun r_8 M_8 L_8 H_8 locs_8 hw hW => ?_)
  refine lv_if_ne (tgt := 17) hx hb0 dX9_say_11 (by decide) (fun c_11 => ?_) (fun c_11 => ?_)
  · replace hw := hw.1 c_11
    refine lv_aload_n hx hb0 dX9_say_17 rfl (lv_at hl 0 rfl) ?_
    refine z_getI X hW zC7 zF_42_13 (by decide) rfl zl_X9_120 dX9_say_18 ?_
    refine lv_bipush (v := (60 : Int32)) hx hb0 dX9_say_21 (by decide) ?_
    refine lv_icmp_ne (tgt := 29) hx hb0 dX9_say_23 (by decide) (fun c_23 => ?_) (fun c_23 => ?_)
    · replace hw := hw.1 c_23
      refine lv_aload_n hx hb0 dX9_say_29 rfl (lv_at hl 0 rfl) ?_
      refine z_getR (k2 := 53) X hW zC7 zR_42_12 (by decide) rfl zl_X9_40 dX9_say_30 ?_
      refine lv_aload_n hx hb0 dX9_say_33 rfl (lv_at hl 0 rfl) ?_
      refine z_getI X hW zC7 zF_42_13 (by decide) rfl zl_X9_120 dX9_say_34 ?_
      refine lv_iload_n hx hb0 dX9_say_37 rfl (lv_at hl 1 rfl) ?_
      obtain ⟨g_38, hw⟩ := hw
      refine z_iast X hW zI_53 g_38 dX9_say_38 (fun M_38 H_38 locs_38 e_38 hW => ?_)
      replace hw := hw M_38 e_38
      refine lv_aload_n hx hb0 dX9_say_39 rfl (lv_at hl 0 rfl) ?_
      refine lv_dup hx hb0 dX9_say_40 rfl ?_
      refine z_getI X hW zC7 zF_42_13 (by decide) rfl zl_X9_120 dX9_say_41 ?_
      refine lv_iconst (v := (1 : Int32)) hx hb0 dX9_say_44 (by decide) ?_
      refine lv_iadd hx hb0 dX9_say_45 ?_
      refine z_put (ty := .int) X hW zC7 zF_42_13 (by decide) rfl zl_X9_120 rfl (by decide +kernel) rfl rfl dX9_say_46 (fun M_46 H_46 locs_46 e_46 hW => ?_)
      replace hw := hw M_46 e_46
      refine lv_aload_n hx hb0 dX9_say_49 rfl (lv_at hl 0 rfl) ?_
      refine z_getI X hW zC7 zF_42_13 (by decide) rfl zl_X9_120 dX9_say_50 ?_
      exact hret _ ls _ _ (M_46 42 13) M_46 L_8 dX9_say_53 rfl hw hW
    · replace hw := hw.2 c_23
      refine lv_bipush (v := (-4 : Int32)) hx hb0 dX9_say_26 (by decide) ?_
      exact hret _ ls _ _ (-4 : Int32) M_8 L_8 dX9_say_28 rfl hw hW
  · replace hw := hw.2 c_11
    refine lv_bipush (v := (-2 : Int32)) hx hb0 dX9_say_14 (by decide) ?_
    exact hret _ ls _ _ (-2 : Int32) M_8 L_8 dX9_say_16 rfl hw hW
theorem kX9_say (l : Launch) (D : va_G) (cy : Nat → ClassId) (ad : Nat → Nat) (hi : zInj ad) (x1 : Int32) : zMi l yX9_say (.code yX9_say cX9_say 2 (some .int) :: zG) rmX9_say D cy ad [.ref (ad 42), .int x1] (wpX9_say x1) :=
  zMi_of (by decide +kernel) (Nat.le_of_ble_eq_true rfl) hi (fun X M L post _ hret ls hl hw hW => mX9_say X post hret M L x1 _ _ ls hw hW hl)
abbrev rmX9_wipe : Room := { frames := 0, cells := 0, slots := 0, locals := 0 }
set_option maxRecDepth 20000 in
set_option maxHeartbeats 4000000 in
theorem mX9_wipe {p : Program} {l : Launch} {e : Env} {s : State} {m : MethodId} {args : Array Value} {below : List Frame} {meth : Method} {c : Code} {cells slots : Nat} {Q : State → Prop} {D : va_G} {cy : Nat → ClassId} {ad : Nat → Nat} {A : Nat → Prop} (X : zCx p rmX9_wipe s m args c cells slots cX9_wipe 2 RX9 D cy ad A) (post : Int32 → Mm → Ml → Prop) (hret : zRi p l e rmX9_wipe s m args below meth c cells slots Q cX9_wipe D cy ad A .int post) : ∀ (M : Mm) (L : Ml) (H : Heap) (locs : List Loc) (ls : Array Slot), wpX9_wipe M L post → zWd D cy ad A s H locs M L → lv_has ls 2 [(0, .ref (ad 42))] → W p l e rmX9_wipe s m args below meth c H locs cells slots Q (F0 m 0 ls []) := by
  have hx := X.1.1; have hb0 := X.1.2.1; have hts := X.1.2.2.2.2
  intro M L H locs ls hw hW hl
  unfold wpX9_wipe at hw
  refine lv_aload_n hx hb0 dX9_wipe_0 rfl (lv_at hl 0 rfl) ?_
  refine z_getI X hW zC7 zF_42_13 (by decide) rfl zl_X9_120 dX9_wipe_1 ?_
  refine lv_topi (fun a_4 e_4 => ?_)
  replace hw := hw a_4 e_4
  refine lv_istore_n (lv' := [(1, .int a_4), (0, .ref (ad 42))]) hx hb0 dX9_wipe_4 rfl hl (by decide) rfl (fun ls hl => ?_)
  refine lv_aload_n hx hb0 dX9_wipe_5 rfl (lv_at hl 1 rfl) ?_
  refine lv_iconst (v := (0 : Int32)) hx hb0 dX9_wipe_6 (by decide) ?_
  refine z_put (ty := .int) X hW zC7 zF_42_13 (by decide) rfl zl_X9_120 rfl (by decide +kernel) rfl rfl dX9_wipe_7 (fun M_7 H_7 locs_7 e_7 hW => ?_)
  replace hw := hw M_7 e_7
  refine lv_iload_n hx hb0 dX9_wipe_10 rfl (lv_at hl 0 rfl) ?_
  exact hret _ ls _ _ a_4 M_7 L dX9_wipe_11 rfl hw hW
theorem kX9_wipe (l : Launch) (D : va_G) (cy : Nat → ClassId) (ad : Nat → Nat) (hi : zInj ad) : zMi l yX9_wipe (.code yX9_wipe cX9_wipe 2 (some .int) :: zG) rmX9_wipe D cy ad [.ref (ad 42)] (wpX9_wipe) :=
  zMi_of (by decide +kernel) (Nat.le_of_ble_eq_true rfl) hi (fun X M L post _ hret ls hl hw hW => mX9_wipe X post hret M L _ _ ls hw hW hl)
abbrev rmX9_close : Room := { frames := 0, cells := 0, slots := 0, locals := 0 }
set_option maxRecDepth 20000 in
set_option maxHeartbeats 4000000 in
theorem mX9_close {p : Program} {l : Launch} {e : Env} {s : State} {m : MethodId} {args : Array Value} {below : List Frame} {meth : Method} {c : Code} {cells slots : Nat} {Q : State → Prop} {D : va_G} {cy : Nat → ClassId} {ad : Nat → Nat} {A : Nat → Prop} (X : zCx p rmX9_close s m args c cells slots cX9_close 2 RX9 D cy ad A) (post : Int32 → Mm → Ml → Prop) (hret : zRi p l e rmX9_close s m args below meth c cells slots Q cX9_close D cy ad A .int post) : ∀ (M : Mm) (L : Ml) (x1 : Int32) (H : Heap) (locs : List Loc) (ls : Array Slot), wpX9_close x1 M L post → zWd D cy ad A s H locs M L → lv_has ls 2 [(0, .ref (ad 42)), (1, .int x1)] → W p l e rmX9_close s m args below meth c H locs cells slots Q (F0 m 0 ls []) := by
  have hx := X.1.1; have hb0 := X.1.2.1; have hts := X.1.2.2.2.2
  intro M L x1 H locs ls hw hW hl
  unfold wpX9_close at hw
  refine lv_aload_n hx hb0 dX9_close_0 rfl (lv_at hl 0 rfl) ?_
  refine z_getR (k2 := 54) X hW zC7 zR_42_14 (by decide) rfl zl_X9_43 dX9_close_1 ?_
  refine lv_aload_n hx hb0 dX9_close_4 rfl (lv_at hl 0 rfl) ?_
  refine z_getI X hW zC7 zF_42_16 (by decide) rfl zl_X9_123 dX9_close_5 ?_
  refine lv_iload_n hx hb0 dX9_close_8 rfl (lv_at hl 1 rfl) ?_
  obtain ⟨g_9, hw⟩ := hw
  refine z_iast X hW zI_54 g_9 dX9_close_9 (fun M_9 H_9 locs_9 e_9 hW => ?_)
  replace hw := hw M_9 e_9
  refine lv_aload_n hx hb0 dX9_close_10 rfl (lv_at hl 0 rfl) ?_
  refine lv_dup hx hb0 dX9_close_11 rfl ?_
  refine z_getI X hW zC7 zF_42_16 (by decide) rfl zl_X9_123 dX9_close_12 ?_
  refine lv_iconst (v := (1 : Int32)) hx hb0 dX9_close_15 (by decide) ?_
  refine lv_iadd hx hb0 dX9_close_16 ?_
  refine z_put (ty := .int) X hW zC7 zF_42_16 (by decide) rfl zl_X9_123 rfl (by decide +kernel) rfl rfl dX9_close_17 (fun M_17 H_17 locs_17 e_17 hW => ?_)
  replace hw := hw M_17 e_17
  refine lv_iconst (v := (0 : Int32)) hx hb0 dX9_close_20 (by decide) ?_
  exact hret _ ls _ _ (0 : Int32) M_17 L dX9_close_21 rfl hw hW
theorem kX9_close (l : Launch) (D : va_G) (cy : Nat → ClassId) (ad : Nat → Nat) (hi : zInj ad) (x1 : Int32) : zMi l yX9_close (.code yX9_close cX9_close 2 (some .int) :: zG) rmX9_close D cy ad [.ref (ad 42), .int x1] (wpX9_close x1) :=
  zMi_of (by decide +kernel) (Nat.le_of_ble_eq_true rfl) hi (fun X M L post _ hret ls hl hw hW => mX9_close X post hret M L x1 _ _ ls hw hW hl)
abbrev rmX9_readOn : Room := { frames := 1, cells := 0, slots := 0, locals := 25 }
set_option maxRecDepth 20000 in
set_option maxHeartbeats 4000000 in
theorem mX9_readOn_51 {p : Program} {l : Launch} {e : Env} {s : State} {m : MethodId} {args : Array Value} {below : List Frame} {meth : Method} {c : Code} {cells slots : Nat} {Q : State → Prop} {D : va_G} {cy : Nat → ClassId} {ad : Nat → Nat} {A : Nat → Prop} (X : zCx p rmX9_readOn s m args c cells slots cX9_readOn 4 RX9 D cy ad A) (post : Int32 → Mm → Ml → Prop) (hret : zRi p l e rmX9_readOn s m args below meth c cells slots Q cX9_readOn D cy ad A .int post) : ∀ (M : Mm) (L : Ml) (s0 : Int32) (H : Heap) (locs : List Loc) (ls : Array Slot), wpX9_readOn_51 post M L s0 → zWd D cy ad A s H locs M L → lv_has ls 4 [] → W p l e rmX9_readOn s m args below meth c H locs cells slots Q (F0 m 51 ls [.int s0]) := by
  have hx := X.1.1; have hb0 := X.1.2.1; have hts := X.1.2.2.2.2
  intro M L s0 H locs ls hw hW hl
  unfold wpX9_readOn_51 at hw
  exact hret _ ls _ _ s0 M L dX9_readOn_51 rfl hw hW
set_option maxRecDepth 20000 in
set_option maxHeartbeats 4000000 in
theorem mX9_readOn_176 {p : Program} {l : Launch} {e : Env} {s : State} {m : MethodId} {args : Array Value} {below : List Frame} {meth : Method} {c : Code} {cells slots : Nat} {Q : State → Prop} {D : va_G} {cy : Nat → ClassId} {ad : Nat → Nat} {A : Nat → Prop} (X : zCx p rmX9_readOn s m args c cells slots cX9_readOn 4 RX9 D cy ad A) (post : Int32 → Mm → Ml → Prop) (hret : zRi p l e rmX9_readOn s m args below meth c cells slots Q cX9_readOn D cy ad A .int post) : ∀ (M : Mm) (L : Ml) (s0 : Int32) (H : Heap) (locs : List Loc) (ls : Array Slot), wpX9_readOn_176 post M L s0 → zWd D cy ad A s H locs M L → lv_has ls 4 [] → W p l e rmX9_readOn s m args below meth c H locs cells slots Q (F0 m 176 ls [.int s0]) := by
  have hx := X.1.1; have hb0 := X.1.2.1; have hts := X.1.2.2.2.2
  intro M L s0 H locs ls hw hW hl
  unfold wpX9_readOn_176 at hw
  exact hret _ ls _ _ s0 M L dX9_readOn_176 rfl hw hW
set_option maxRecDepth 20000 in
set_option maxHeartbeats 4000000 in
theorem mX9_readOn_84 {p : Program} {l : Launch} {e : Env} {s : State} {m : MethodId} {args : Array Value} {below : List Frame} {meth : Method} {c : Code} {cells slots : Nat} {Q : State → Prop} {D : va_G} {cy : Nat → ClassId} {ad : Nat → Nat} {A : Nat → Prop} (X : zCx p rmX9_readOn s m args c cells slots cX9_readOn 4 RX9 D cy ad A) (post : Int32 → Mm → Ml → Prop) (hret : zRi p l e rmX9_readOn s m args below meth c cells slots Q cX9_readOn D cy ad A .int post) : ∀ (M : Mm) (L : Ml) (v2 : Int32) (v3 : Int32) (s0 : Int32) (s1 : Int32) (H : Heap) (locs : List Loc) (ls : Array Slot), wpX9_readOn_84 post M L v2 v3 s0 s1 → zWd D cy ad A s H locs M L → lv_has ls 4 [(0, .ref (ad 42)), (2, .int v2), (3, .int v3)] → W p l e rmX9_readOn s m args below meth c H locs cells slots Q (F0 m 84 ls [.int s0, .int s1, .ref (ad 55)]) := by
  have hx := X.1.1; have hb0 := X.1.2.1; have hts := X.1.2.2.2.2
  intro M L v2 v3 s0 s1 H locs ls hw hW hl
  unfold wpX9_readOn_84 at hw
  obtain ⟨g_84, hw⟩ := hw
  refine z_iast X hW zI_55 g_84 dX9_readOn_84 (fun M_84 H_84 locs_84 e_84 hW => ?_)
  replace hw := hw M_84 e_84
  refine lv_iload_n hx hb0 dX9_readOn_85 rfl (lv_at hl 1 rfl) ?_
  by_cases c_86_0 : v2 = (46 : Int32)
  · replace hw := hw.1 c_86_0
    refine lv_lookup (tgt := 160) (off := 74) hx hb0 dX9_readOn_86 rfl (by rw [c_86_0]; rfl) (by decide) ?_
    refine lv_aload_n hx hb0 dX9_readOn_160 rfl (lv_at hl 0 rfl) ?_
    refine lv_iconst (v := (4 : Int32)) hx hb0 dX9_readOn_161 (by decide) ?_
    refine z_Vi X zO_42 zC7 zc_X9_close zs_X9_close zl_X9_126 rfl ⟨rfl, rfl⟩ ⟨Nat.le_of_ble_eq_true rfl, Nat.le_of_ble_eq_true rfl⟩ (kX9_close l D cy ad X.2.2.2.1 (4 : Int32)) hW hw hl.1 rfl rfl (Nat.le_of_ble_eq_true rfl) dX9_readOn_162 (fun r_162 M_162 L_162 H_162 locs_162 hw hW => ?_)
    exact hret _ ls _ _ r_162 M_162 L_162 dX9_readOn_165 rfl hw hW
  · replace hw := hw.2 c_86_0
    by_cases c_86_1 : v2 = (60 : Int32)
    · replace hw := hw.1 c_86_1
      refine lv_lookup (tgt := 148) (off := 62) hx hb0 dX9_readOn_86 rfl (by rw [c_86_1]; rfl) (by decide) ?_
      refine lv_aload_n hx hb0 dX9_readOn_148 rfl (lv_at hl 0 rfl) ?_
      refine lv_iconst (v := (2 : Int32)) hx hb0 dX9_readOn_149 (by decide) ?_
      refine z_Vi X zO_42 zC7 zc_X9_close zs_X9_close zl_X9_126 rfl ⟨rfl, rfl⟩ ⟨Nat.le_of_ble_eq_true rfl, Nat.le_of_ble_eq_true rfl⟩ (kX9_close l D cy ad X.2.2.2.1 (2 : Int32)) hW hw hl.1 rfl rfl (Nat.le_of_ble_eq_true rfl) dX9_readOn_150 (fun r_150 M_150 L_150 H_150 locs_150 hw hW => ?_)
      exact hret _ ls _ _ r_150 M_150 L_150 dX9_readOn_153 rfl hw hW
    · replace hw := hw.2 c_86_1
      by_cases c_86_2 : v2 = (62 : Int32)
      · replace hw := hw.1 c_86_2
        refine lv_lookup (tgt := 154) (off := 68) hx hb0 dX9_readOn_86 rfl (by rw [c_86_2]; rfl) (by decide) ?_
        refine lv_aload_n hx hb0 dX9_readOn_154 rfl (lv_at hl 0 rfl) ?_
        refine lv_iconst (v := (3 : Int32)) hx hb0 dX9_readOn_155 (by decide) ?_
        refine z_Vi X zO_42 zC7 zc_X9_close zs_X9_close zl_X9_126 rfl ⟨rfl, rfl⟩ ⟨Nat.le_of_ble_eq_true rfl, Nat.le_of_ble_eq_true rfl⟩ (kX9_close l D cy ad X.2.2.2.1 (3 : Int32)) hW hw hl.1 rfl rfl (Nat.le_of_ble_eq_true rfl) dX9_readOn_156 (fun r_156 M_156 L_156 H_156 locs_156 hw hW => ?_)
        exact hret _ ls _ _ r_156 M_156 L_156 dX9_readOn_159 rfl hw hW
      · replace hw := hw.2 c_86_2
        by_cases c_86_3 : v2 = (99 : Int32)
        · replace hw := hw.1 c_86_3
          refine lv_lookup (tgt := 136) (off := 50) hx hb0 dX9_readOn_86 rfl (by rw [c_86_3]; rfl) (by decide) ?_
          refine lv_aload_n hx hb0 dX9_readOn_136 rfl (lv_at hl 0 rfl) ?_
          refine lv_iconst (v := (0 : Int32)) hx hb0 dX9_readOn_137 (by decide) ?_
          refine z_Vi X zO_42 zC7 zc_X9_close zs_X9_close zl_X9_126 rfl ⟨rfl, rfl⟩ ⟨Nat.le_of_ble_eq_true rfl, Nat.le_of_ble_eq_true rfl⟩ (kX9_close l D cy ad X.2.2.2.1 (0 : Int32)) hW hw hl.1 rfl rfl (Nat.le_of_ble_eq_true rfl) dX9_readOn_138 (fun r_138 M_138 L_138 H_138 locs_138 hw hW => ?_)
          exact hret _ ls _ _ r_138 M_138 L_138 dX9_readOn_141 rfl hw hW
        · replace hw := hw.2 c_86_3
          by_cases c_86_4 : v2 = (100 : Int32)
          · replace hw := hw.1 c_86_4
            refine lv_lookup (tgt := 142) (off := 56) hx hb0 dX9_readOn_86 rfl (by rw [c_86_4]; rfl) (by decide) ?_
            refine lv_aload_n hx hb0 dX9_readOn_142 rfl (lv_at hl 0 rfl) ?_
            refine lv_iconst (v := (1 : Int32)) hx hb0 dX9_readOn_143 (by decide) ?_
            refine z_Vi X zO_42 zC7 zc_X9_close zs_X9_close zl_X9_126 rfl ⟨rfl, rfl⟩ ⟨Nat.le_of_ble_eq_true rfl, Nat.le_of_ble_eq_true rfl⟩ (kX9_close l D cy ad X.2.2.2.1 (1 : Int32)) hW hw hl.1 rfl rfl (Nat.le_of_ble_eq_true rfl) dX9_readOn_144 (fun r_144 M_144 L_144 H_144 locs_144 hw hW => ?_)
            exact hret _ ls _ _ r_144 M_144 L_144 dX9_readOn_147 rfl hw hW
          · replace hw := hw.2 c_86_4
            refine lv_lookup (tgt := 166) (off := 80) hx hb0 dX9_readOn_86 rfl (by show Op.lookupswitch.offset [(46, 74), (60, 62), (62, 68), (99, 50), (100, 56)] 80 v2.toInt = _; rw [lv_osw c_86_0 (by decide), lv_osw c_86_1 (by decide), lv_osw c_86_2 (by decide), lv_osw c_86_3 (by decide), lv_osw c_86_4 (by decide)]; rfl) (by decide) ?_
            refine lv_iload_n hx hb0 dX9_readOn_166 rfl (lv_at hl 2 rfl) ?_
            refine lv_if_eq (tgt := 174) hx hb0 dX9_readOn_167 (by decide) (fun c_167 => ?_) (fun c_167 => ?_)
            · replace hw := hw.1 c_167
              refine lv_bipush (v := (-6 : Int32)) hx hb0 dX9_readOn_174 (by decide) ?_
              exact mX9_readOn_176 X post hret M_84 L (-6 : Int32) _ _ ls hw hW (lv_sub hl [] rfl)
            · replace hw := hw.2 c_167
              refine lv_iconst (v := (1 : Int32)) hx hb0 dX9_readOn_170 (by decide) ?_
              refine lv_goto (tgt := 176) hx hb0 dX9_readOn_171 (by decide) ?_
              exact mX9_readOn_176 X post hret M_84 L (1 : Int32) _ _ ls hw hW (lv_sub hl [] rfl)
set_option maxRecDepth 20000 in
set_option maxHeartbeats 4000000 in
theorem mX9_readOn {p : Program} {l : Launch} {e : Env} {s : State} {m : MethodId} {args : Array Value} {below : List Frame} {meth : Method} {c : Code} {cells slots : Nat} {Q : State → Prop} {D : va_G} {cy : Nat → ClassId} {ad : Nat → Nat} {A : Nat → Prop} (X : zCx p rmX9_readOn s m args c cells slots cX9_readOn 4 RX9 D cy ad A) (post : Int32 → Mm → Ml → Prop) (hret : zRi p l e rmX9_readOn s m args below meth c cells slots Q cX9_readOn D cy ad A .int post) : ∀ (M : Mm) (L : Ml) (x1 : Int32) (x2 : Int32) (H : Heap) (locs : List Loc) (ls : Array Slot), wpX9_readOn x1 x2 M L post → zWd D cy ad A s H locs M L → lv_has ls 4 [(0, .ref (ad 42)), (1, .int x1), (2, .int x2)] → W p l e rmX9_readOn s m args below meth c H locs cells slots Q (F0 m 0 ls []) := by
  have hx := X.1.1; have hb0 := X.1.2.1; have hts := X.1.2.2.2.2
  intro M L x1 x2 H locs ls hw hW hl
  unfold wpX9_readOn at hw
  refine lv_iload_n hx hb0 dX9_readOn_0 rfl (lv_at hl 1 rfl) ?_
  refine lv_iconst (v := (1 : Int32)) hx hb0 dX9_readOn_1 (by decide) ?_
  refine lv_icmp_ne (tgt := 52) hx hb0 dX9_readOn_2 (by decide) (fun c_2 => ?_) (fun c_2 => ?_)
  · replace hw := hw.1 c_2
    refine lv_iload_n hx hb0 dX9_readOn_52 rfl (lv_at hl 2 rfl) ?_
    refine lv_i2l hx hb0 dX9_readOn_53 rfl ?_
    refine lv_ldc2 (v := (65 : Int64)) hx hb0 X.1.2.2.2.1 (hts _ zk_X9_129) dX9_readOn_54 ?_
    refine lv_ldc2 (v := (70 : Int64)) hx hb0 X.1.2.2.2.1 (hts _ zk_X9_131) dX9_readOn_57 ?_
    refine z_Si X zc_X9_in zt_X9_in zl_X9_86 rfl ⟨rfl, rfl⟩ ⟨Nat.le_of_ble_eq_true rfl, Nat.le_of_ble_eq_true rfl⟩ (kX9_in l D cy ad X.2.2.2.1 (x2.toInt64) (65 : Int64) (70 : Int64)) hW hw hl.1 rfl rfl (Nat.le_of_ble_eq_true rfl) dX9_readOn_60 (fun r_60 M_60 L_60 H_60 locs_60 hw hW => ?_)
    refine lv_istore_n (lv' := [(3, .int r_60), (0, .ref (ad 42)), (1, .int x1), (2, .int x2)]) hx hb0 dX9_readOn_63 rfl hl (by decide) rfl (fun ls hl => ?_)
    refine lv_aload_n hx hb0 dX9_readOn_64 rfl (lv_at hl 1 rfl) ?_
    refine z_getR (k2 := 55) X hW zC7 zR_42_15 (by decide) rfl zl_X9_46 dX9_readOn_65 ?_
    refine lv_aload_n hx hb0 dX9_readOn_68 rfl (lv_at hl 1 rfl) ?_
    refine z_getI X hW zC7 zF_42_16 (by decide) rfl zl_X9_123 dX9_readOn_69 ?_
    refine lv_iload_n hx hb0 dX9_readOn_72 rfl (lv_at hl 0 rfl) ?_
    refine lv_if_eq (tgt := 83) hx hb0 dX9_readOn_73 (by decide) (fun c_73 => ?_) (fun c_73 => ?_)
    · replace hw := hw.1 c_73
      refine lv_iconst (v := (0 : Int32)) hx hb0 dX9_readOn_83 (by decide) ?_
      exact mX9_readOn_84 X post hret M_60 L_60 x2 r_60 (0 : Int32) (M_60 42 16) _ _ ls hw hW (lv_sub hl [1, 3, 0] rfl)
    · replace hw := hw.2 c_73
      refine lv_iload_n hx hb0 dX9_readOn_76 rfl (lv_at hl 3 rfl) ?_
      refine lv_bipush (v := (65 : Int32)) hx hb0 dX9_readOn_77 (by decide) ?_
      refine lv_isub hx hb0 dX9_readOn_79 ?_
      refine lv_goto (tgt := 84) hx hb0 dX9_readOn_80 (by decide) ?_
      exact mX9_readOn_84 X post hret M_60 L_60 x2 r_60 (x2 - (65 : Int32)) (M_60 42 16) _ _ ls hw hW (lv_sub hl [1, 3, 0] rfl)
  · replace hw := hw.2 c_2
    refine lv_iload_n hx hb0 dX9_readOn_5 rfl (lv_at hl 2 rfl) ?_
    refine lv_bipush (v := (60 : Int32)) hx hb0 dX9_readOn_6 (by decide) ?_
    refine lv_icmp_ne (tgt := 19) hx hb0 dX9_readOn_8 (by decide) (fun c_8 => ?_) (fun c_8 => ?_)
    · replace hw := hw.1 c_8
      refine lv_iload_n hx hb0 dX9_readOn_19 rfl (lv_at hl 2 rfl) ?_
      refine lv_bipush (v := (62 : Int32)) hx hb0 dX9_readOn_20 (by decide) ?_
      refine lv_icmp_ne (tgt := 34) hx hb0 dX9_readOn_22 (by decide) (fun c_22 => ?_) (fun c_22 => ?_)
      · replace hw := hw.1 c_22
        refine lv_iload_n hx hb0 dX9_readOn_34 rfl (lv_at hl 2 rfl) ?_
        refine lv_bipush (v := (117 : Int32)) hx hb0 dX9_readOn_35 (by decide) ?_
        refine lv_icmp_ne (tgt := 49) hx hb0 dX9_readOn_37 (by decide) (fun c_37 => ?_) (fun c_37 => ?_)
        · replace hw := hw.1 c_37
          refine lv_bipush (v := (-6 : Int32)) hx hb0 dX9_readOn_49 (by decide) ?_
          exact mX9_readOn_51 X post hret M L (-6 : Int32) _ _ ls hw hW (lv_sub hl [] rfl)
        · replace hw := hw.2 c_37
          refine lv_aload_n hx hb0 dX9_readOn_40 rfl (lv_at hl 0 rfl) ?_
          refine lv_bipush (v := (7 : Int32)) hx hb0 dX9_readOn_41 (by decide) ?_
          refine z_Vi X zO_42 zC7 zc_X9_close zs_X9_close zl_X9_126 rfl ⟨rfl, rfl⟩ ⟨Nat.le_of_ble_eq_true rfl, Nat.le_of_ble_eq_true rfl⟩ (kX9_close l D cy ad X.2.2.2.1 (7 : Int32)) hW hw hl.1 rfl rfl (Nat.le_of_ble_eq_true rfl) dX9_readOn_43 (fun r_43 M_43 L_43 H_43 locs_43 hw hW => ?_)
          refine lv_goto (tgt := 51) hx hb0 dX9_readOn_46 (by decide) ?_
          exact mX9_readOn_51 X post hret M_43 L_43 r_43 _ _ ls hw hW (lv_sub hl [] rfl)
      · replace hw := hw.2 c_22
        refine lv_aload_n hx hb0 dX9_readOn_25 rfl (lv_at hl 0 rfl) ?_
        refine lv_bipush (v := (6 : Int32)) hx hb0 dX9_readOn_26 (by decide) ?_
        refine z_Vi X zO_42 zC7 zc_X9_close zs_X9_close zl_X9_126 rfl ⟨rfl, rfl⟩ ⟨Nat.le_of_ble_eq_true rfl, Nat.le_of_ble_eq_true rfl⟩ (kX9_close l D cy ad X.2.2.2.1 (6 : Int32)) hW hw hl.1 rfl rfl (Nat.le_of_ble_eq_true rfl) dX9_readOn_28 (fun r_28 M_28 L_28 H_28 locs_28 hw hW => ?_)
        refine lv_goto (tgt := 51) hx hb0 dX9_readOn_31 (by decide) ?_
        exact mX9_readOn_51 X post hret M_28 L_28 r_28 _ _ ls hw hW (lv_sub hl [] rfl)
    · replace hw := hw.2 c_8
      refine lv_aload_n hx hb0 dX9_readOn_11 rfl (lv_at hl 0 rfl) ?_
      refine lv_iconst (v := (5 : Int32)) hx hb0 dX9_readOn_12 (by decide) ?_
      refine z_Vi X zO_42 zC7 zc_X9_close zs_X9_close zl_X9_126 rfl ⟨rfl, rfl⟩ ⟨Nat.le_of_ble_eq_true rfl, Nat.le_of_ble_eq_true rfl⟩ (kX9_close l D cy ad X.2.2.2.1 (5 : Int32)) hW hw hl.1 rfl rfl (Nat.le_of_ble_eq_true rfl) dX9_readOn_13 (fun r_13 M_13 L_13 H_13 locs_13 hw hW => ?_)
      refine lv_goto (tgt := 51) hx hb0 dX9_readOn_16 (by decide) ?_
      exact mX9_readOn_51 X post hret M_13 L_13 r_13 _ _ ls hw hW (lv_sub hl [] rfl)
theorem kX9_readOn (l : Launch) (D : va_G) (cy : Nat → ClassId) (ad : Nat → Nat) (hi : zInj ad) (x1 : Int32) (x2 : Int32) : zMi l yX9_readOn (.code yX9_readOn cX9_readOn 4 (some .int) :: zG) rmX9_readOn D cy ad [.ref (ad 42), .int x1, .int x2] (wpX9_readOn x1 x2) :=
  zMi_of (by decide +kernel) (Nat.le_of_ble_eq_true rfl) hi (fun X M L post _ hret ls hl hw hW => mX9_readOn X post hret M L x1 x2 _ _ ls hw hW hl)
abbrev rmX9_fault : Room := { frames := 2, cells := 0, slots := 0, locals := 48 }
set_option maxRecDepth 20000 in
set_option maxHeartbeats 4000000 in
theorem mX9_fault_54 {p : Program} {l : Launch} {e : Env} {s : State} {m : MethodId} {args : Array Value} {below : List Frame} {meth : Method} {c : Code} {cells slots : Nat} {Q : State → Prop} {D : va_G} {cy : Nat → ClassId} {ad : Nat → Nat} {A : Nat → Prop} (X : zCx p rmX9_fault s m args c cells slots cX9_fault 3 RX9 D cy ad A) (post : Int32 → Mm → Ml → Prop) (hret : zRi p l e rmX9_fault s m args below meth c cells slots Q cX9_fault D cy ad A .int post) : ∀ (M : Mm) (L : Ml) (s0 : Int32) (H : Heap) (locs : List Loc) (ls : Array Slot), wpX9_fault_54 post M L s0 → zWd D cy ad A s H locs M L → lv_has ls 3 [] → W p l e rmX9_fault s m args below meth c H locs cells slots Q (F0 m 54 ls [.int s0]) := by
  have hx := X.1.1; have hb0 := X.1.2.1; have hts := X.1.2.2.2.2
  intro M L s0 H locs ls hw hW hl
  unfold wpX9_fault_54 at hw
  exact hret _ ls _ _ s0 M L dX9_fault_54 rfl hw hW
set_option maxRecDepth 20000 in
set_option maxHeartbeats 4000000 in
theorem mX9_fault_9 {p : Program} {l : Launch} {e : Env} {s : State} {m : MethodId} {args : Array Value} {below : List Frame} {meth : Method} {c : Code} {cells slots : Nat} {Q : State → Prop} {D : va_G} {cy : Nat → ClassId} {ad : Nat → Nat} {A : Nat → Prop} (X : zCx p rmX9_fault s m args c cells slots cX9_fault 3 RX9 D cy ad A) (post : Int32 → Mm → Ml → Prop) (hret : zRi p l e rmX9_fault s m args below meth c cells slots Q cX9_fault D cy ad A .int post) : ∀ (j9 : Nat) (M : Mm) (L : Ml) (v1 : Int32) (v2 : Int32) (H : Heap) (locs : List Loc) (ls : Array Slot), wlX9_fault_9 post j9 (M, L, v1, v2) → zWd D cy ad A s H locs M L → lv_has ls 3 [(0, .ref (ad 42)), (1, .int v1), (2, .int v2)] → W p l e rmX9_fault s m args below meth c H locs cells slots Q (F0 m 9 ls []) := by
  have hx := X.1.1; have hb0 := X.1.2.1; have hts := X.1.2.2.2.2
  intro j9
  induction j9 with
  | zero => intro M L v1 v2 H locs ls hw; exact hw.elim
  | succ j9 ih =>
    obtain ⟨K9, hKe⟩ : ∃ K : Mm → Ml → Int32 → Int32 → Prop, K = fun M L v1 v2 => wlX9_fault_9 post j9 (M, L, v1, v2) := ⟨_, rfl⟩
    have hK9 : ∀ (M : Mm) (L : Ml) (v1 : Int32) (v2 : Int32) (H : Heap) (locs : List Loc) (ls : Array Slot), K9 M L v1 v2 → zWd D cy ad A s H locs M L → lv_has ls 3 [(0, .ref (ad 42)), (1, .int v1), (2, .int v2)] → W p l e rmX9_fault s m args below meth c H locs cells slots Q (F0 m 9 ls []) := by intro M L v1 v2 H locs ls hw; rw [hKe] at hw; exact ih M L v1 v2 H locs ls hw
    intro M L v1 v2 H locs ls hw hW hl
    have hw : wpX9_fault_9 post K9 M L v1 v2 := by rw [hKe]; exact hw
    clear ih
    unfold wpX9_fault_9 at hw
    refine lv_iload_n hx hb0 dX9_fault_9 rfl (lv_at hl 2 rfl) ?_
    refine lv_aload_n hx hb0 dX9_fault_10 rfl (lv_at hl 0 rfl) ?_
    refine z_getI X hW zC7 zF_42_13 (by decide) rfl zl_X9_120 dX9_fault_11 ?_
    refine lv_icmp_ge (tgt := 41) hx hb0 dX9_fault_14 (by decide) (fun c_14 => ?_) (fun c_14 => ?_)
    · replace hw := hw.1 c_14
      refine lv_iload_n hx hb0 dX9_fault_41 rfl (lv_at hl 1 rfl) ?_
      refine lv_if_ne (tgt := 50) hx hb0 dX9_fault_42 (by decide) (fun c_42 => ?_) (fun c_42 => ?_)
      · replace hw := hw.1 c_42
        refine lv_aload_n hx hb0 dX9_fault_50 rfl (lv_at hl 0 rfl) ?_
        refine z_getI X hW zC7 zF_42_13 (by decide) rfl zl_X9_120 dX9_fault_51 ?_
        exact mX9_fault_54 X post hret M L (M 42 13) _ _ ls hw hW (lv_sub hl [] rfl)
      · replace hw := hw.2 c_42
        refine lv_bipush (v := (-6 : Int32)) hx hb0 dX9_fault_45 (by decide) ?_
        refine lv_goto (tgt := 54) hx hb0 dX9_fault_47 (by decide) ?_
        exact mX9_fault_54 X post hret M L (-6 : Int32) _ _ ls hw hW (lv_sub hl [] rfl)
    · replace hw := hw.2 c_14
      refine lv_aload_n hx hb0 dX9_fault_17 rfl (lv_at hl 0 rfl) ?_
      refine lv_iload_n hx hb0 dX9_fault_18 rfl (lv_at hl 1 rfl) ?_
      refine lv_aload_n hx hb0 dX9_fault_19 rfl (lv_at hl 0 rfl) ?_
      refine z_getR (k2 := 53) X hW zC7 zR_42_12 (by decide) rfl zl_X9_40 dX9_fault_20 ?_
      refine lv_iload_n hx hb0 dX9_fault_23 rfl (lv_at hl 2 rfl) ?_
      obtain ⟨g_24, hw⟩ := hw
      refine z_iald X hW zI_53 g_24 dX9_fault_24 ?_
      refine z_Vi X zO_42 zC7 zc_X9_readOn zs_X9_readOn zl_X9_133 rfl ⟨rfl, rfl⟩ ⟨Nat.le_of_ble_eq_true rfl, Nat.le_of_ble_eq_true rfl⟩ (kX9_readOn l D cy ad X.2.2.2.1 v1 (M 53 v2.toNatClampNeg)) hW hw hl.1 rfl rfl (Nat.le_of_ble_eq_true rfl) dX9_fault_25 (fun r_25 M_25 L_25 H_25 locs_25 hw hW => ?_)
      refine lv_istore_n (lv' := [(1, .int r_25), (0, .ref (ad 42)), (2, .int v2)]) hx hb0 dX9_fault_28 rfl hl (by decide) rfl (fun ls hl => ?_)
      refine lv_iload_n hx hb0 dX9_fault_29 rfl (lv_at hl 0 rfl) ?_
      refine lv_if_ge (tgt := 35) hx hb0 dX9_fault_30 (by decide) (fun c_30 => ?_) (fun c_30 => ?_)
      · replace hw := hw.1 c_30
        obtain ⟨a_35, e_35⟩ : ∃ y : Int32, y = v2 + (1 : Int32) := ⟨_, rfl⟩
        replace hw := hw a_35 e_35
        refine lv_iinc (v := a_35) (lv' := [(2, .int a_35), (1, .int r_25), (0, .ref (ad 42))]) hx hb0 dX9_fault_35 hl (k := 2) rfl (by rw [e_35]; rfl) (by decide) rfl (fun ls hl => ?_)
        refine lv_goto (tgt := 9) hx hb0 dX9_fault_38 (by decide) ?_
        exact hK9 M_25 L_25 r_25 a_35 _ _ ls hw hW (lv_sub hl [2, 1, 0] rfl)
      · replace hw := hw.2 c_30
        refine lv_iload_n hx hb0 dX9_fault_33 rfl (lv_at hl 2 rfl) ?_
        exact hret _ ls _ _ v2 M_25 L_25 dX9_fault_34 rfl hw hW
set_option maxRecDepth 20000 in
set_option maxHeartbeats 4000000 in
theorem mX9_fault {p : Program} {l : Launch} {e : Env} {s : State} {m : MethodId} {args : Array Value} {below : List Frame} {meth : Method} {c : Code} {cells slots : Nat} {Q : State → Prop} {D : va_G} {cy : Nat → ClassId} {ad : Nat → Nat} {A : Nat → Prop} (X : zCx p rmX9_fault s m args c cells slots cX9_fault 3 RX9 D cy ad A) (post : Int32 → Mm → Ml → Prop) (hret : zRi p l e rmX9_fault s m args below meth c cells slots Q cX9_fault D cy ad A .int post) : ∀ (M : Mm) (L : Ml) (H : Heap) (locs : List Loc) (ls : Array Slot), wpX9_fault M L post → zWd D cy ad A s H locs M L → lv_has ls 3 [(0, .ref (ad 42))] → W p l e rmX9_fault s m args below meth c H locs cells slots Q (F0 m 0 ls []) := by
  have hx := X.1.1; have hb0 := X.1.2.1; have hts := X.1.2.2.2.2
  intro M L H locs ls hw hW hl
  unfold wpX9_fault at hw
  refine lv_aload_n hx hb0 dX9_fault_0 rfl (lv_at hl 0 rfl) ?_
  refine lv_iconst (v := (0 : Int32)) hx hb0 dX9_fault_1 (by decide) ?_
  refine z_put (ty := .int) X hW zC7 zF_42_16 (by decide) rfl zl_X9_123 rfl (by decide +kernel) rfl rfl dX9_fault_2 (fun M_2 H_2 locs_2 e_2 hW => ?_)
  replace hw := hw M_2 e_2
  refine lv_iconst (v := (0 : Int32)) hx hb0 dX9_fault_5 (by decide) ?_
  refine lv_istore_n (lv' := [(1, .int (0 : Int32)), (0, .ref (ad 42))]) hx hb0 dX9_fault_6 rfl hl (by decide) rfl (fun ls hl => ?_)
  refine lv_iconst (v := (0 : Int32)) hx hb0 dX9_fault_7 (by decide) ?_
  refine lv_istore_n (lv' := [(2, .int (0 : Int32)), (1, .int (0 : Int32)), (0, .ref (ad 42))]) hx hb0 dX9_fault_8 rfl hl (by decide) rfl (fun ls hl => ?_)
  obtain ⟨n_9, hw⟩ := hw
  exact mX9_fault_9 X post hret n_9 M_2 L (0 : Int32) (0 : Int32) _ _ ls hw hW (lv_sub hl [2, 1, 0] rfl)
theorem kX9_fault (l : Launch) (D : va_G) (cy : Nat → ClassId) (ad : Nat → Nat) (hi : zInj ad) : zMi l yX9_fault (.code yX9_fault cX9_fault 3 (some .int) :: zG) rmX9_fault D cy ad [.ref (ad 42)] (wpX9_fault) :=
  zMi_of (by decide +kernel) (Nat.le_of_ble_eq_true rfl) hi (fun X M L post _ hret ls hl hw hW => mX9_fault X post hret M L _ _ ls hw hW hl)
abbrev rmX9_isAbove : Room := { frames := 2, cells := 0, slots := 0, locals := 46 }
set_option maxRecDepth 20000 in
set_option maxHeartbeats 4000000 in
theorem mX9_isAbove_22 {p : Program} {l : Launch} {e : Env} {s : State} {m : MethodId} {args : Array Value} {below : List Frame} {meth : Method} {c : Code} {cells slots : Nat} {Q : State → Prop} {D : va_G} {cy : Nat → ClassId} {ad : Nat → Nat} {A : Nat → Prop} (X : zCx p rmX9_isAbove s m args c cells slots cX9_isAbove 2 RX9 D cy ad A) (post : Int32 → Mm → Ml → Prop) (hret : zRi p l e rmX9_isAbove s m args below meth c cells slots Q cX9_isAbove D cy ad A .boolean post) : ∀ (M : Mm) (L : Ml) (s0 : Int32) (H : Heap) (locs : List Loc) (ls : Array Slot), wpX9_isAbove_22 post M L s0 → zWd D cy ad A s H locs M L → lv_has ls 2 [] → W p l e rmX9_isAbove s m args below meth c H locs cells slots Q (F0 m 22 ls [.int s0]) := by
  have hx := X.1.1; have hb0 := X.1.2.1; have hts := X.1.2.2.2.2
  intro M L s0 H locs ls hw hW hl
  unfold wpX9_isAbove_22 at hw
  exact hret _ ls _ _ s0 M L dX9_isAbove_22 (z_bool hw.1) hw.2 hW
set_option maxRecDepth 20000 in
set_option maxHeartbeats 4000000 in
theorem mX9_isAbove_21 {p : Program} {l : Launch} {e : Env} {s : State} {m : MethodId} {args : Array Value} {below : List Frame} {meth : Method} {c : Code} {cells slots : Nat} {Q : State → Prop} {D : va_G} {cy : Nat → ClassId} {ad : Nat → Nat} {A : Nat → Prop} (X : zCx p rmX9_isAbove s m args c cells slots cX9_isAbove 2 RX9 D cy ad A) (post : Int32 → Mm → Ml → Prop) (hret : zRi p l e rmX9_isAbove s m args below meth c cells slots Q cX9_isAbove D cy ad A .boolean post) : ∀ (M : Mm) (L : Ml) (H : Heap) (locs : List Loc) (ls : Array Slot), wpX9_isAbove_21 post M L → zWd D cy ad A s H locs M L → lv_has ls 2 [] → W p l e rmX9_isAbove s m args below meth c H locs cells slots Q (F0 m 21 ls []) := by
  have hx := X.1.1; have hb0 := X.1.2.1; have hts := X.1.2.2.2.2
  intro M L H locs ls hw hW hl
  unfold wpX9_isAbove_21 at hw
  refine lv_iconst (v := (0 : Int32)) hx hb0 dX9_isAbove_21 (by decide) ?_
  exact mX9_isAbove_22 X post hret M L (0 : Int32) _ _ ls hw hW (lv_sub hl [] rfl)
set_option maxRecDepth 20000 in
set_option maxHeartbeats 4000000 in
theorem mX9_isAbove {p : Program} {l : Launch} {e : Env} {s : State} {m : MethodId} {args : Array Value} {below : List Frame} {meth : Method} {c : Code} {cells slots : Nat} {Q : State → Prop} {D : va_G} {cy : Nat → ClassId} {ad : Nat → Nat} {A : Nat → Prop} (X : zCx p rmX9_isAbove s m args c cells slots cX9_isAbove 2 RX9 D cy ad A) (post : Int32 → Mm → Ml → Prop) (hret : zRi p l e rmX9_isAbove s m args below meth c cells slots Q cX9_isAbove D cy ad A .boolean post) : ∀ (M : Mm) (L : Ml) (x1 : Int32) (H : Heap) (locs : List Loc) (ls : Array Slot), wpX9_isAbove x1 M L post → zWd D cy ad A s H locs M L → lv_has ls 2 [(0, .ref (ad 42)), (1, .int x1)] → W p l e rmX9_isAbove s m args below meth c H locs cells slots Q (F0 m 0 ls []) := by
  have hx := X.1.1; have hb0 := X.1.2.1; have hts := X.1.2.2.2.2
  intro M L x1 H locs ls hw hW hl
  unfold wpX9_isAbove at hw
  refine lv_aload_n hx hb0 dX9_isAbove_0 rfl (lv_at hl 0 rfl) ?_
  refine lv_iload_n hx hb0 dX9_isAbove_1 rfl (lv_at hl 1 rfl) ?_
  refine z_Vi X zO_42 zC7 zc_X9_isFlake zs_X9_isFlake zl_X9_113 rfl ⟨rfl, rfl⟩ ⟨Nat.le_of_ble_eq_true rfl, Nat.le_of_ble_eq_true rfl⟩ (kX9_isFlake l D cy ad X.2.2.2.1 x1) hW hw hl.1 rfl rfl (Nat.le_of_ble_eq_true rfl) dX9_isAbove_2 (fun r_2 M_2 L_2 H_2 locs_2 hw hW => ?_)
  refine lv_if_eq (tgt := 21) hx hb0 dX9_isAbove_5 (by decide) (fun c_5 => ?_) (fun c_5 => ?_)
  · replace hw := hw.1 c_5
    exact mX9_isAbove_21 X post hret M_2 L_2 _ _ ls hw hW (lv_sub hl [] rfl)
  · replace hw := hw.2 c_5
    refine lv_aload_n hx hb0 dX9_isAbove_8 rfl (lv_at hl 0 rfl) ?_
    refine z_getR (k2 := 45) X hW zC7 zR_42_3 (by decide) rfl zl_X9_16 dX9_isAbove_9 ?_
    refine lv_iload_n hx hb0 dX9_isAbove_12 rfl (lv_at hl 1 rfl) ?_
    obtain ⟨g_13, hw⟩ := hw
    refine z_iald X hW zI_45 g_13 dX9_isAbove_13 ?_
    refine lv_if_le (tgt := 21) hx hb0 dX9_isAbove_14 (by decide) (fun c_14 => ?_) (fun c_14 => ?_)
    · replace hw := hw.1 c_14
      exact mX9_isAbove_21 X post hret M_2 L_2 _ _ ls hw hW (lv_sub hl [] rfl)
    · replace hw := hw.2 c_14
      refine lv_iconst (v := (1 : Int32)) hx hb0 dX9_isAbove_17 (by decide) ?_
      refine lv_goto (tgt := 22) hx hb0 dX9_isAbove_18 (by decide) ?_
      exact mX9_isAbove_22 X post hret M_2 L_2 (1 : Int32) _ _ ls hw hW (lv_sub hl [] rfl)
theorem kX9_isAbove (l : Launch) (D : va_G) (cy : Nat → ClassId) (ad : Nat → Nat) (hi : zInj ad) (x1 : Int32) : zMi l yX9_isAbove (.code yX9_isAbove cX9_isAbove 2 (some .boolean) :: zG) rmX9_isAbove D cy ad [.ref (ad 42), .int x1] (wpX9_isAbove x1) :=
  zMi_of (by decide +kernel) (Nat.le_of_ble_eq_true rfl) hi (fun X M L post _ hret ls hl hw hW => mX9_isAbove X post hret M L x1 _ _ ls hw hW hl)
abbrev rmX9_aboveMany : Room := { frames := 3, cells := 0, slots := 0, locals := 67 }
set_option maxRecDepth 20000 in
set_option maxHeartbeats 4000000 in
theorem mX9_aboveMany_24 {p : Program} {l : Launch} {e : Env} {s : State} {m : MethodId} {args : Array Value} {below : List Frame} {meth : Method} {c : Code} {cells slots : Nat} {Q : State → Prop} {D : va_G} {cy : Nat → ClassId} {ad : Nat → Nat} {A : Nat → Prop} (X : zCx p rmX9_aboveMany s m args c cells slots cX9_aboveMany 3 RX9 D cy ad A) (post : Int32 → Mm → Ml → Prop) (hret : zRi p l e rmX9_aboveMany s m args below meth c cells slots Q cX9_aboveMany D cy ad A .int post) (K4 : Mm → Ml → Int32 → Int32 → Prop) (hK4 : ∀ (M : Mm) (L : Ml) (v1 : Int32) (v2 : Int32) (H : Heap) (locs : List Loc) (ls : Array Slot), K4 M L v1 v2 → zWd D cy ad A s H locs M L → lv_has ls 3 [(0, .ref (ad 42)), (1, .int v1), (2, .int v2)] → W p l e rmX9_aboveMany s m args below meth c H locs cells slots Q (F0 m 4 ls [])) : ∀ (M : Mm) (L : Ml) (v2 : Int32) (s0 : Int32) (s1 : Int32) (H : Heap) (locs : List Loc) (ls : Array Slot), wpX9_aboveMany_24 post K4 M L v2 s0 s1 → zWd D cy ad A s H locs M L → lv_has ls 3 [(0, .ref (ad 42)), (2, .int v2)] → W p l e rmX9_aboveMany s m args below meth c H locs cells slots Q (F0 m 24 ls [.int s0, .int s1]) := by
  have hx := X.1.1; have hb0 := X.1.2.1; have hts := X.1.2.2.2.2
  intro M L v2 s0 s1 H locs ls hw hW hl
  unfold wpX9_aboveMany_24 at hw
  refine lv_iadd hx hb0 dX9_aboveMany_24 ?_
  refine lv_topi (fun a_25 e_25 => ?_)
  replace hw := hw a_25 e_25
  refine lv_istore_n (lv' := [(1, .int a_25), (0, .ref (ad 42)), (2, .int v2)]) hx hb0 dX9_aboveMany_25 rfl hl (by decide) rfl (fun ls hl => ?_)
  obtain ⟨a_26, e_26⟩ : ∃ y : Int32, y = v2 + (1 : Int32) := ⟨_, rfl⟩
  replace hw := hw a_26 e_26
  refine lv_iinc (v := a_26) (lv' := [(2, .int a_26), (1, .int a_25), (0, .ref (ad 42))]) hx hb0 dX9_aboveMany_26 hl (k := 2) rfl (by rw [e_26]; rfl) (by decide) rfl (fun ls hl => ?_)
  refine lv_goto (tgt := 4) hx hb0 dX9_aboveMany_29 (by decide) ?_
  exact hK4 M L a_25 a_26 _ _ ls hw hW (lv_sub hl [2, 1, 0] rfl)
set_option maxRecDepth 20000 in
set_option maxHeartbeats 4000000 in
theorem mX9_aboveMany_4 {p : Program} {l : Launch} {e : Env} {s : State} {m : MethodId} {args : Array Value} {below : List Frame} {meth : Method} {c : Code} {cells slots : Nat} {Q : State → Prop} {D : va_G} {cy : Nat → ClassId} {ad : Nat → Nat} {A : Nat → Prop} (X : zCx p rmX9_aboveMany s m args c cells slots cX9_aboveMany 3 RX9 D cy ad A) (post : Int32 → Mm → Ml → Prop) (hret : zRi p l e rmX9_aboveMany s m args below meth c cells slots Q cX9_aboveMany D cy ad A .int post) : ∀ (j9 : Nat) (M : Mm) (L : Ml) (v1 : Int32) (v2 : Int32) (H : Heap) (locs : List Loc) (ls : Array Slot), wlX9_aboveMany_4 post j9 (M, L, v1, v2) → zWd D cy ad A s H locs M L → lv_has ls 3 [(0, .ref (ad 42)), (1, .int v1), (2, .int v2)] → W p l e rmX9_aboveMany s m args below meth c H locs cells slots Q (F0 m 4 ls []) := by
  have hx := X.1.1; have hb0 := X.1.2.1; have hts := X.1.2.2.2.2
  intro j9
  induction j9 with
  | zero => intro M L v1 v2 H locs ls hw; exact hw.elim
  | succ j9 ih =>
    obtain ⟨K4, hKe⟩ : ∃ K : Mm → Ml → Int32 → Int32 → Prop, K = fun M L v1 v2 => wlX9_aboveMany_4 post j9 (M, L, v1, v2) := ⟨_, rfl⟩
    have hK4 : ∀ (M : Mm) (L : Ml) (v1 : Int32) (v2 : Int32) (H : Heap) (locs : List Loc) (ls : Array Slot), K4 M L v1 v2 → zWd D cy ad A s H locs M L → lv_has ls 3 [(0, .ref (ad 42)), (1, .int v1), (2, .int v2)] → W p l e rmX9_aboveMany s m args below meth c H locs cells slots Q (F0 m 4 ls []) := by intro M L v1 v2 H locs ls hw; rw [hKe] at hw; exact ih M L v1 v2 H locs ls hw
    intro M L v1 v2 H locs ls hw hW hl
    have hw : wpX9_aboveMany_4 post K4 M L v1 v2 := by rw [hKe]; exact hw
    clear ih
    unfold wpX9_aboveMany_4 at hw
    refine lv_iload_n hx hb0 dX9_aboveMany_4 rfl (lv_at hl 2 rfl) ?_
    refine lv_bipush (v := (8 : Int32)) hx hb0 dX9_aboveMany_5 (by decide) ?_
    refine lv_icmp_ge (tgt := 32) hx hb0 dX9_aboveMany_7 (by decide) (fun c_7 => ?_) (fun c_7 => ?_)
    · replace hw := hw.1 c_7
      refine lv_iload_n hx hb0 dX9_aboveMany_32 rfl (lv_at hl 1 rfl) ?_
      exact hret _ ls _ _ v1 M L dX9_aboveMany_33 rfl hw hW
    · replace hw := hw.2 c_7
      refine lv_iload_n hx hb0 dX9_aboveMany_10 rfl (lv_at hl 1 rfl) ?_
      refine lv_aload_n hx hb0 dX9_aboveMany_11 rfl (lv_at hl 0 rfl) ?_
      refine lv_iload_n hx hb0 dX9_aboveMany_12 rfl (lv_at hl 2 rfl) ?_
      refine z_Vi X zO_42 zC7 zc_X9_isAbove zs_X9_isAbove zl_X9_137 rfl ⟨rfl, rfl⟩ ⟨Nat.le_of_ble_eq_true rfl, Nat.le_of_ble_eq_true rfl⟩ (kX9_isAbove l D cy ad X.2.2.2.1 v2) hW hw hl.1 rfl rfl (Nat.le_of_ble_eq_true rfl) dX9_aboveMany_13 (fun r_13 M_13 L_13 H_13 locs_13 hw hW => ?_)
      refine lv_if_eq (tgt := 23) hx hb0 dX9_aboveMany_16 (by decide) (fun c_16 => ?_) (fun c_16 => ?_)
      · replace hw := hw.1 c_16
        refine lv_iconst (v := (0 : Int32)) hx hb0 dX9_aboveMany_23 (by decide) ?_
        exact mX9_aboveMany_24 X post hret K4 hK4 M_13 L_13 v2 (0 : Int32) v1 _ _ ls hw hW (lv_sub hl [0, 2] rfl)
      · replace hw := hw.2 c_16
        refine lv_iconst (v := (1 : Int32)) hx hb0 dX9_aboveMany_19 (by decide) ?_
        refine lv_goto (tgt := 24) hx hb0 dX9_aboveMany_20 (by decide) ?_
        exact mX9_aboveMany_24 X post hret K4 hK4 M_13 L_13 v2 (1 : Int32) v1 _ _ ls hw hW (lv_sub hl [0, 2] rfl)
set_option maxRecDepth 20000 in
set_option maxHeartbeats 4000000 in
theorem mX9_aboveMany {p : Program} {l : Launch} {e : Env} {s : State} {m : MethodId} {args : Array Value} {below : List Frame} {meth : Method} {c : Code} {cells slots : Nat} {Q : State → Prop} {D : va_G} {cy : Nat → ClassId} {ad : Nat → Nat} {A : Nat → Prop} (X : zCx p rmX9_aboveMany s m args c cells slots cX9_aboveMany 3 RX9 D cy ad A) (post : Int32 → Mm → Ml → Prop) (hret : zRi p l e rmX9_aboveMany s m args below meth c cells slots Q cX9_aboveMany D cy ad A .int post) : ∀ (M : Mm) (L : Ml) (H : Heap) (locs : List Loc) (ls : Array Slot), wpX9_aboveMany M L post → zWd D cy ad A s H locs M L → lv_has ls 3 [(0, .ref (ad 42))] → W p l e rmX9_aboveMany s m args below meth c H locs cells slots Q (F0 m 0 ls []) := by
  have hx := X.1.1; have hb0 := X.1.2.1; have hts := X.1.2.2.2.2
  intro M L H locs ls hw hW hl
  unfold wpX9_aboveMany at hw
  refine lv_iconst (v := (0 : Int32)) hx hb0 dX9_aboveMany_0 (by decide) ?_
  refine lv_istore_n (lv' := [(1, .int (0 : Int32)), (0, .ref (ad 42))]) hx hb0 dX9_aboveMany_1 rfl hl (by decide) rfl (fun ls hl => ?_)
  refine lv_iconst (v := (0 : Int32)) hx hb0 dX9_aboveMany_2 (by decide) ?_
  refine lv_istore_n (lv' := [(2, .int (0 : Int32)), (1, .int (0 : Int32)), (0, .ref (ad 42))]) hx hb0 dX9_aboveMany_3 rfl hl (by decide) rfl (fun ls hl => ?_)
  obtain ⟨n_4, hw⟩ := hw
  exact mX9_aboveMany_4 X post hret n_4 M L (0 : Int32) (0 : Int32) _ _ ls hw hW (lv_sub hl [2, 1, 0] rfl)
theorem kX9_aboveMany (l : Launch) (D : va_G) (cy : Nat → ClassId) (ad : Nat → Nat) (hi : zInj ad) : zMi l yX9_aboveMany (.code yX9_aboveMany cX9_aboveMany 3 (some .int) :: zG) rmX9_aboveMany D cy ad [.ref (ad 42)] (wpX9_aboveMany) :=
  zMi_of (by decide +kernel) (Nat.le_of_ble_eq_true rfl) hi (fun X M L post _ hret ls hl hw hW => mX9_aboveMany X post hret M L _ _ ls hw hW hl)
abbrev rmX9_whyNot : Room := { frames := 4, cells := 0, slots := 0, locals := 89 }
set_option maxRecDepth 20000 in
set_option maxHeartbeats 4000000 in
theorem mX9_whyNot_42 {p : Program} {l : Launch} {e : Env} {s : State} {m : MethodId} {args : Array Value} {below : List Frame} {meth : Method} {c : Code} {cells slots : Nat} {Q : State → Prop} {D : va_G} {cy : Nat → ClassId} {ad : Nat → Nat} {A : Nat → Prop} (X : zCx p rmX9_whyNot s m args c cells slots cX9_whyNot 3 RX9 D cy ad A) (post : Int32 → Mm → Ml → Prop) (hret : zRi p l e rmX9_whyNot s m args below meth c cells slots Q cX9_whyNot D cy ad A .int post) : ∀ (M : Mm) (L : Ml) (s0 : Int32) (H : Heap) (locs : List Loc) (ls : Array Slot), wpX9_whyNot_42 post M L s0 → zWd D cy ad A s H locs M L → lv_has ls 3 [] → W p l e rmX9_whyNot s m args below meth c H locs cells slots Q (F0 m 42 ls [.int s0]) := by
  have hx := X.1.1; have hb0 := X.1.2.1; have hts := X.1.2.2.2.2
  intro M L s0 H locs ls hw hW hl
  unfold wpX9_whyNot_42 at hw
  exact hret _ ls _ _ s0 M L dX9_whyNot_42 rfl hw hW
set_option maxRecDepth 20000 in
set_option maxHeartbeats 4000000 in
theorem mX9_whyNot_59 {p : Program} {l : Launch} {e : Env} {s : State} {m : MethodId} {args : Array Value} {below : List Frame} {meth : Method} {c : Code} {cells slots : Nat} {Q : State → Prop} {D : va_G} {cy : Nat → ClassId} {ad : Nat → Nat} {A : Nat → Prop} (X : zCx p rmX9_whyNot s m args c cells slots cX9_whyNot 3 RX9 D cy ad A) (post : Int32 → Mm → Ml → Prop) (hret : zRi p l e rmX9_whyNot s m args below meth c cells slots Q cX9_whyNot D cy ad A .int post) : ∀ (M : Mm) (L : Ml) (s0 : Int32) (H : Heap) (locs : List Loc) (ls : Array Slot), wpX9_whyNot_59 post M L s0 → zWd D cy ad A s H locs M L → lv_has ls 3 [] → W p l e rmX9_whyNot s m args below meth c H locs cells slots Q (F0 m 59 ls [.int s0]) := by
  have hx := X.1.1; have hb0 := X.1.2.1; have hts := X.1.2.2.2.2
  intro M L s0 H locs ls hw hW hl
  unfold wpX9_whyNot_59 at hw
  exact hret _ ls _ _ s0 M L dX9_whyNot_59 rfl hw hW
set_option maxRecDepth 20000 in
set_option maxHeartbeats 4000000 in
theorem mX9_whyNot_74 {p : Program} {l : Launch} {e : Env} {s : State} {m : MethodId} {args : Array Value} {below : List Frame} {meth : Method} {c : Code} {cells slots : Nat} {Q : State → Prop} {D : va_G} {cy : Nat → ClassId} {ad : Nat → Nat} {A : Nat → Prop} (X : zCx p rmX9_whyNot s m args c cells slots cX9_whyNot 3 RX9 D cy ad A) (post : Int32 → Mm → Ml → Prop) (hret : zRi p l e rmX9_whyNot s m args below meth c cells slots Q cX9_whyNot D cy ad A .int post) : ∀ (M : Mm) (L : Ml) (s0 : Int32) (H : Heap) (locs : List Loc) (ls : Array Slot), wpX9_whyNot_74 post M L s0 → zWd D cy ad A s H locs M L → lv_has ls 3 [] → W p l e rmX9_whyNot s m args below meth c H locs cells slots Q (F0 m 74 ls [.int s0]) := by
  have hx := X.1.1; have hb0 := X.1.2.1; have hts := X.1.2.2.2.2
  intro M L s0 H locs ls hw hW hl
  unfold wpX9_whyNot_74 at hw
  exact hret _ ls _ _ s0 M L dX9_whyNot_74 rfl hw hW
set_option maxRecDepth 20000 in
set_option maxHeartbeats 4000000 in
theorem mX9_whyNot {p : Program} {l : Launch} {e : Env} {s : State} {m : MethodId} {args : Array Value} {below : List Frame} {meth : Method} {c : Code} {cells slots : Nat} {Q : State → Prop} {D : va_G} {cy : Nat → ClassId} {ad : Nat → Nat} {A : Nat → Prop} (X : zCx p rmX9_whyNot s m args c cells slots cX9_whyNot 3 RX9 D cy ad A) (post : Int32 → Mm → Ml → Prop) (hret : zRi p l e rmX9_whyNot s m args below meth c cells slots Q cX9_whyNot D cy ad A .int post) : ∀ (M : Mm) (L : Ml) (x1 : Int32) (x2 : Int32) (H : Heap) (locs : List Loc) (ls : Array Slot), wpX9_whyNot x1 x2 M L post → zWd D cy ad A s H locs M L → lv_has ls 3 [(0, .ref (ad 42)), (1, .int x1), (2, .int x2)] → W p l e rmX9_whyNot s m args below meth c H locs cells slots Q (F0 m 0 ls []) := by
  have hx := X.1.1; have hb0 := X.1.2.1; have hts := X.1.2.2.2.2
  intro M L x1 x2 H locs ls hw hW hl
  unfold wpX9_whyNot at hw
  refine lv_iload_n hx hb0 dX9_whyNot_0 rfl (lv_at hl 1 rfl) ?_
  by_cases c_1_0 : x1 = (5 : Int32)
  · replace hw := hw.1 c_1_0
    refine lv_tableIn (tgt := 28) (off := 27) hx hb0 dX9_whyNot_1 (by rw [c_1_0]; decide) (by rw [c_1_0]; decide) (by rw [c_1_0]; rfl) (by decide) ?_
    refine lv_aload_n hx hb0 dX9_whyNot_28 rfl (lv_at hl 0 rfl) ?_
    refine z_getR (k2 := 48) X hW zC7 zR_42_6 (by decide) rfl zl_X9_25 dX9_whyNot_29 ?_
    refine lv_iload_n hx hb0 dX9_whyNot_32 rfl (lv_at hl 2 rfl) ?_
    obtain ⟨g_33, hw⟩ := hw
    refine z_iald X hW zI_48 g_33 dX9_whyNot_33 ?_
    refine lv_if_ne (tgt := 41) hx hb0 dX9_whyNot_34 (by decide) (fun c_34 => ?_) (fun c_34 => ?_)
    · replace hw := hw.1 c_34
      refine lv_iconst (v := (0 : Int32)) hx hb0 dX9_whyNot_41 (by decide) ?_
      exact mX9_whyNot_42 X post hret M L (0 : Int32) _ _ ls hw hW (lv_sub hl [] rfl)
    · replace hw := hw.2 c_34
      refine lv_iconst (v := (1 : Int32)) hx hb0 dX9_whyNot_37 (by decide) ?_
      refine lv_goto (tgt := 42) hx hb0 dX9_whyNot_38 (by decide) ?_
      exact mX9_whyNot_42 X post hret M L (1 : Int32) _ _ ls hw hW (lv_sub hl [] rfl)
  · replace hw := hw.2 c_1_0
    by_cases c_1_1 : x1 = (6 : Int32)
    · replace hw := hw.1 c_1_1
      refine lv_tableIn (tgt := 43) (off := 42) hx hb0 dX9_whyNot_1 (by rw [c_1_1]; decide) (by rw [c_1_1]; decide) (by rw [c_1_1]; rfl) (by decide) ?_
      refine lv_aload_n hx hb0 dX9_whyNot_43 rfl (lv_at hl 0 rfl) ?_
      refine z_getR (k2 := 48) X hW zC7 zR_42_6 (by decide) rfl zl_X9_25 dX9_whyNot_44 ?_
      refine lv_iload_n hx hb0 dX9_whyNot_47 rfl (lv_at hl 2 rfl) ?_
      obtain ⟨g_48, hw⟩ := hw
      refine z_iald X hW zI_48 g_48 dX9_whyNot_48 ?_
      refine lv_bipush (v := (15 : Int32)) hx hb0 dX9_whyNot_49 (by decide) ?_
      refine lv_icmp_ne (tgt := 58) hx hb0 dX9_whyNot_51 (by decide) (fun c_51 => ?_) (fun c_51 => ?_)
      · replace hw := hw.1 c_51
        refine lv_iconst (v := (0 : Int32)) hx hb0 dX9_whyNot_58 (by decide) ?_
        exact mX9_whyNot_59 X post hret M L (0 : Int32) _ _ ls hw hW (lv_sub hl [] rfl)
      · replace hw := hw.2 c_51
        refine lv_iconst (v := (1 : Int32)) hx hb0 dX9_whyNot_54 (by decide) ?_
        refine lv_goto (tgt := 59) hx hb0 dX9_whyNot_55 (by decide) ?_
        exact mX9_whyNot_59 X post hret M L (1 : Int32) _ _ ls hw hW (lv_sub hl [] rfl)
    · replace hw := hw.2 c_1_1
      by_cases c_1_2 : x1 = (7 : Int32)
      · replace hw := hw.1 c_1_2
        refine lv_tableIn (tgt := 60) (off := 59) hx hb0 dX9_whyNot_1 (by rw [c_1_2]; decide) (by rw [c_1_2]; decide) (by rw [c_1_2]; rfl) (by decide) ?_
        refine lv_iconst (v := (0 : Int32)) hx hb0 dX9_whyNot_60 (by decide) ?_
        exact hret _ ls _ _ (0 : Int32) M L dX9_whyNot_61 rfl hw hW
      · replace hw := hw.2 c_1_2
        refine lv_tableOut (tgt := 62) hx hb0 dX9_whyNot_1 (by have q0 : ¬ x1.toInt = 5 := lv_neT c_1_0 (by decide); have q1 : ¬ x1.toInt = 6 := lv_neT c_1_1 (by decide); have q2 : ¬ x1.toInt = 7 := lv_neT c_1_2 (by decide); omega) (by decide) ?_
        refine lv_aload_n hx hb0 dX9_whyNot_62 rfl (lv_at hl 0 rfl) ?_
        refine z_Vi X zO_42 zC7 zc_X9_aboveMany zs_X9_aboveMany zl_X9_140 rfl ⟨rfl, rfl⟩ ⟨Nat.le_of_ble_eq_true rfl, Nat.le_of_ble_eq_true rfl⟩ (kX9_aboveMany l D cy ad X.2.2.2.1) hW hw hl.1 rfl rfl (Nat.le_of_ble_eq_true rfl) dX9_whyNot_63 (fun r_63 M_63 L_63 H_63 locs_63 hw hW => ?_)
        refine lv_if_ne (tgt := 73) hx hb0 dX9_whyNot_66 (by decide) (fun c_66 => ?_) (fun c_66 => ?_)
        · replace hw := hw.1 c_66
          refine lv_iconst (v := (0 : Int32)) hx hb0 dX9_whyNot_73 (by decide) ?_
          exact mX9_whyNot_74 X post hret M_63 L_63 (0 : Int32) _ _ ls hw hW (lv_sub hl [] rfl)
        · replace hw := hw.2 c_66
          refine lv_iconst (v := (2 : Int32)) hx hb0 dX9_whyNot_69 (by decide) ?_
          refine lv_goto (tgt := 74) hx hb0 dX9_whyNot_70 (by decide) ?_
          exact mX9_whyNot_74 X post hret M_63 L_63 (2 : Int32) _ _ ls hw hW (lv_sub hl [] rfl)
theorem kX9_whyNot (l : Launch) (D : va_G) (cy : Nat → ClassId) (ad : Nat → Nat) (hi : zInj ad) (x1 : Int32) (x2 : Int32) : zMi l yX9_whyNot (.code yX9_whyNot cX9_whyNot 3 (some .int) :: zG) rmX9_whyNot D cy ad [.ref (ad 42), .int x1, .int x2] (wpX9_whyNot x1 x2) :=
  zMi_of (by decide +kernel) (Nat.le_of_ble_eq_true rfl) hi (fun X M L post _ hret ls hl hw hW => mX9_whyNot X post hret M L x1 x2 _ _ ls hw hW hl)
