/-! the walks, by program -/
abbrev rmX9_isFree : Room := { frames := 2, cells := 0, slots := 0, locals := 46 }
set_option maxRecDepth 20000 in
set_option maxHeartbeats 4000000 in
theorem mX9_isFree_29 {p : Program} {l : Launch} {e : Env} {s : State} {m : MethodId} {args : Array Value} {below : List Frame} {meth : Method} {c : Code} {cells slots : Nat} {Q : State → Prop} {D : va_G} {cy : Nat → ClassId} {ad : Nat → Nat} {A : Nat → Prop} (X : zCx p rmX9_isFree s m args c cells slots cX9_isFree 5 RX9 D cy ad A) (post : Int32 → Mm → Ml → Prop) (hret : zRi p l e rmX9_isFree s m args below meth c cells slots Q cX9_isFree D cy ad A .boolean post) (K4 : Mm → Ml → Int32 → Int32 → Int32 → Prop) (hK4 : ∀ (M : Mm) (L : Ml) (v1 : Int32) (v2 : Int32) (v3 : Int32) (H : Heap) (locs : List Loc) (ls : Array Slot), K4 M L v1 v2 v3 → zWd D cy ad A s H locs M L → lv_has ls 5 [(0, .ref (ad 42)), (1, .int v1), (2, .int v2), (3, .int v3)] → W p l e rmX9_isFree s m args below meth c H locs cells slots Q (F0 m 4 ls [])) : ∀ (M : Mm) (L : Ml) (v1 : Int32) (v3 : Int32) (s0 : Int32) (H : Heap) (locs : List Loc) (ls : Array Slot), wpX9_isFree_29 post K4 M L v1 v3 s0 → zWd D cy ad A s H locs M L → lv_has ls 5 [(0, .ref (ad 42)), (1, .int v1), (3, .int v3)] → W p l e rmX9_isFree s m args below meth c H locs cells slots Q (F0 m 29 ls [.int s0]) := by
  have hx := X.1.1; have hb0 := X.1.2.1; have hts := X.1.2.2.2.2
  intro M L v1 v3 s0 H locs ls hw hW hl
  unfold wpX9_isFree_29 at hw
  refine lv_istore_n (lv' := [(2, .int s0), (0, .ref (ad 42)), (1, .int v1), (3, .int v3)]) hx hb0 dX9_isFree_29 rfl hl (by decide) rfl (fun ls hl => ?_)
  obtain ⟨a_30, e_30⟩ : ∃ y : Int32, y = v3 + (1 : Int32) := ⟨_, rfl⟩
  replace hw := hw a_30 e_30
  refine lv_iinc (v := a_30) (lv' := [(3, .int a_30), (2, .int s0), (0, .ref (ad 42)), (1, .int v1)]) hx hb0 dX9_isFree_30 hl (k := 3) rfl (by rw [e_30]; rfl) (by decide) rfl (fun ls hl => ?_)
  refine lv_goto (tgt := 4) hx hb0 dX9_isFree_33 (by decide) ?_
  exact hK4 M L v1 s0 a_30 _ _ ls hw hW (lv_sub hl [2, 3, 1, 0] rfl)
set_option maxRecDepth 20000 in
set_option maxHeartbeats 4000000 in
theorem mX9_isFree_28 {p : Program} {l : Launch} {e : Env} {s : State} {m : MethodId} {args : Array Value} {below : List Frame} {meth : Method} {c : Code} {cells slots : Nat} {Q : State → Prop} {D : va_G} {cy : Nat → ClassId} {ad : Nat → Nat} {A : Nat → Prop} (X : zCx p rmX9_isFree s m args c cells slots cX9_isFree 5 RX9 D cy ad A) (post : Int32 → Mm → Ml → Prop) (hret : zRi p l e rmX9_isFree s m args below meth c cells slots Q cX9_isFree D cy ad A .boolean post) (K4 : Mm → Ml → Int32 → Int32 → Int32 → Prop) (hK4 : ∀ (M : Mm) (L : Ml) (v1 : Int32) (v2 : Int32) (v3 : Int32) (H : Heap) (locs : List Loc) (ls : Array Slot), K4 M L v1 v2 v3 → zWd D cy ad A s H locs M L → lv_has ls 5 [(0, .ref (ad 42)), (1, .int v1), (2, .int v2), (3, .int v3)] → W p l e rmX9_isFree s m args below meth c H locs cells slots Q (F0 m 4 ls [])) : ∀ (M : Mm) (L : Ml) (v1 : Int32) (v3 : Int32) (H : Heap) (locs : List Loc) (ls : Array Slot), wpX9_isFree_28 post K4 M L v1 v3 → zWd D cy ad A s H locs M L → lv_has ls 5 [(0, .ref (ad 42)), (1, .int v1), (3, .int v3)] → W p l e rmX9_isFree s m args below meth c H locs cells slots Q (F0 m 28 ls []) := by
  have hx := X.1.1; have hb0 := X.1.2.1; have hts := X.1.2.2.2.2
  intro M L v1 v3 H locs ls hw hW hl
  unfold wpX9_isFree_28 at hw
  refine lv_iconst (v := (0 : Int32)) hx hb0 dX9_isFree_28 (by decide) ?_
  exact mX9_isFree_29 X post hret K4 hK4 M L v1 v3 (0 : Int32) _ _ ls hw hW (lv_sub hl [0, 1, 2] rfl)
set_option maxRecDepth 20000 in
set_option maxHeartbeats 4000000 in
theorem mX9_isFree_101 {p : Program} {l : Launch} {e : Env} {s : State} {m : MethodId} {args : Array Value} {below : List Frame} {meth : Method} {c : Code} {cells slots : Nat} {Q : State → Prop} {D : va_G} {cy : Nat → ClassId} {ad : Nat → Nat} {A : Nat → Prop} (X : zCx p rmX9_isFree s m args c cells slots cX9_isFree 5 RX9 D cy ad A) (post : Int32 → Mm → Ml → Prop) (hret : zRi p l e rmX9_isFree s m args below meth c cells slots Q cX9_isFree D cy ad A .boolean post) (K38 : Mm → Ml → Int32 → Int32 → Int32 → Prop) (hK38 : ∀ (M : Mm) (L : Ml) (v1 : Int32) (v2 : Int32) (v3 : Int32) (H : Heap) (locs : List Loc) (ls : Array Slot), K38 M L v1 v2 v3 → zWd D cy ad A s H locs M L → lv_has ls 5 [(0, .ref (ad 42)), (1, .int v1), (2, .int v2), (3, .int v3)] → W p l e rmX9_isFree s m args below meth c H locs cells slots Q (F0 m 38 ls [])) : ∀ (M : Mm) (L : Ml) (v1 : Int32) (v3 : Int32) (s0 : Int32) (H : Heap) (locs : List Loc) (ls : Array Slot), wpX9_isFree_101 post K38 M L v1 v3 s0 → zWd D cy ad A s H locs M L → lv_has ls 5 [(0, .ref (ad 42)), (1, .int v1), (3, .int v3)] → W p l e rmX9_isFree s m args below meth c H locs cells slots Q (F0 m 101 ls [.int s0]) := by
  have hx := X.1.1; have hb0 := X.1.2.1; have hts := X.1.2.2.2.2
  intro M L v1 v3 s0 H locs ls hw hW hl
  unfold wpX9_isFree_101 at hw
  refine lv_istore_n (lv' := [(2, .int s0), (0, .ref (ad 42)), (1, .int v1), (3, .int v3)]) hx hb0 dX9_isFree_101 rfl hl (by decide) rfl (fun ls hl => ?_)
  obtain ⟨a_102, e_102⟩ : ∃ y : Int32, y = v3 + (1 : Int32) := ⟨_, rfl⟩
  replace hw := hw a_102 e_102
  refine lv_iinc (v := a_102) (lv' := [(3, .int a_102), (2, .int s0), (0, .ref (ad 42)), (1, .int v1)]) hx hb0 dX9_isFree_102 hl (k := 3) rfl (by rw [e_102]; rfl) (by decide) rfl (fun ls hl => ?_)
  refine lv_goto (tgt := 38) hx hb0 dX9_isFree_105 (by decide) ?_
  exact hK38 M L v1 s0 a_102 _ _ ls hw hW (lv_sub hl [2, 3, 1, 0] rfl)
set_option maxRecDepth 20000 in
set_option maxHeartbeats 4000000 in
theorem mX9_isFree_96 {p : Program} {l : Launch} {e : Env} {s : State} {m : MethodId} {args : Array Value} {below : List Frame} {meth : Method} {c : Code} {cells slots : Nat} {Q : State → Prop} {D : va_G} {cy : Nat → ClassId} {ad : Nat → Nat} {A : Nat → Prop} (X : zCx p rmX9_isFree s m args c cells slots cX9_isFree 5 RX9 D cy ad A) (post : Int32 → Mm → Ml → Prop) (hret : zRi p l e rmX9_isFree s m args below meth c cells slots Q cX9_isFree D cy ad A .boolean post) (K38 : Mm → Ml → Int32 → Int32 → Int32 → Prop) (hK38 : ∀ (M : Mm) (L : Ml) (v1 : Int32) (v2 : Int32) (v3 : Int32) (H : Heap) (locs : List Loc) (ls : Array Slot), K38 M L v1 v2 v3 → zWd D cy ad A s H locs M L → lv_has ls 5 [(0, .ref (ad 42)), (1, .int v1), (2, .int v2), (3, .int v3)] → W p l e rmX9_isFree s m args below meth c H locs cells slots Q (F0 m 38 ls [])) : ∀ (M : Mm) (L : Ml) (v1 : Int32) (v3 : Int32) (H : Heap) (locs : List Loc) (ls : Array Slot), wpX9_isFree_96 post K38 M L v1 v3 → zWd D cy ad A s H locs M L → lv_has ls 5 [(0, .ref (ad 42)), (1, .int v1), (3, .int v3)] → W p l e rmX9_isFree s m args below meth c H locs cells slots Q (F0 m 96 ls []) := by
  have hx := X.1.1; have hb0 := X.1.2.1; have hts := X.1.2.2.2.2
  intro M L v1 v3 H locs ls hw hW hl
  unfold wpX9_isFree_96 at hw
  refine lv_iconst (v := (1 : Int32)) hx hb0 dX9_isFree_96 (by decide) ?_
  refine lv_goto (tgt := 101) hx hb0 dX9_isFree_97 (by decide) ?_
  exact mX9_isFree_101 X post hret K38 hK38 M L v1 v3 (1 : Int32) _ _ ls hw hW (lv_sub hl [0, 1, 2] rfl)
set_option maxRecDepth 20000 in
set_option maxHeartbeats 4000000 in
theorem mX9_isFree_100 {p : Program} {l : Launch} {e : Env} {s : State} {m : MethodId} {args : Array Value} {below : List Frame} {meth : Method} {c : Code} {cells slots : Nat} {Q : State → Prop} {D : va_G} {cy : Nat → ClassId} {ad : Nat → Nat} {A : Nat → Prop} (X : zCx p rmX9_isFree s m args c cells slots cX9_isFree 5 RX9 D cy ad A) (post : Int32 → Mm → Ml → Prop) (hret : zRi p l e rmX9_isFree s m args below meth c cells slots Q cX9_isFree D cy ad A .boolean post) (K38 : Mm → Ml → Int32 → Int32 → Int32 → Prop) (hK38 : ∀ (M : Mm) (L : Ml) (v1 : Int32) (v2 : Int32) (v3 : Int32) (H : Heap) (locs : List Loc) (ls : Array Slot), K38 M L v1 v2 v3 → zWd D cy ad A s H locs M L → lv_has ls 5 [(0, .ref (ad 42)), (1, .int v1), (2, .int v2), (3, .int v3)] → W p l e rmX9_isFree s m args below meth c H locs cells slots Q (F0 m 38 ls [])) : ∀ (M : Mm) (L : Ml) (v1 : Int32) (v3 : Int32) (H : Heap) (locs : List Loc) (ls : Array Slot), wpX9_isFree_100 post K38 M L v1 v3 → zWd D cy ad A s H locs M L → lv_has ls 5 [(0, .ref (ad 42)), (1, .int v1), (3, .int v3)] → W p l e rmX9_isFree s m args below meth c H locs cells slots Q (F0 m 100 ls []) := by
  have hx := X.1.1; have hb0 := X.1.2.1; have hts := X.1.2.2.2.2
  intro M L v1 v3 H locs ls hw hW hl
  unfold wpX9_isFree_100 at hw
  refine lv_iconst (v := (0 : Int32)) hx hb0 dX9_isFree_100 (by decide) ?_
  exact mX9_isFree_101 X post hret K38 hK38 M L v1 v3 (0 : Int32) _ _ ls hw hW (lv_sub hl [0, 1, 2] rfl)
set_option maxRecDepth 20000 in
set_option maxHeartbeats 4000000 in
theorem mX9_isFree_75 {p : Program} {l : Launch} {e : Env} {s : State} {m : MethodId} {args : Array Value} {below : List Frame} {meth : Method} {c : Code} {cells slots : Nat} {Q : State → Prop} {D : va_G} {cy : Nat → ClassId} {ad : Nat → Nat} {A : Nat → Prop} (X : zCx p rmX9_isFree s m args c cells slots cX9_isFree 5 RX9 D cy ad A) (post : Int32 → Mm → Ml → Prop) (hret : zRi p l e rmX9_isFree s m args below meth c cells slots Q cX9_isFree D cy ad A .boolean post) (K38 : Mm → Ml → Int32 → Int32 → Int32 → Prop) (hK38 : ∀ (M : Mm) (L : Ml) (v1 : Int32) (v2 : Int32) (v3 : Int32) (H : Heap) (locs : List Loc) (ls : Array Slot), K38 M L v1 v2 v3 → zWd D cy ad A s H locs M L → lv_has ls 5 [(0, .ref (ad 42)), (1, .int v1), (2, .int v2), (3, .int v3)] → W p l e rmX9_isFree s m args below meth c H locs cells slots Q (F0 m 38 ls [])) : ∀ (M : Mm) (L : Ml) (v1 : Int32) (v2 : Int32) (v3 : Int32) (s0 : Int32) (H : Heap) (locs : List Loc) (ls : Array Slot), wpX9_isFree_75 post K38 M L v1 v2 v3 s0 → zWd D cy ad A s H locs M L → lv_has ls 5 [(0, .ref (ad 42)), (1, .int v1), (2, .int v2), (3, .int v3)] → W p l e rmX9_isFree s m args below meth c H locs cells slots Q (F0 m 75 ls [.int s0]) := by
  have hx := X.1.1; have hb0 := X.1.2.1; have hts := X.1.2.2.2.2
  intro M L v1 v2 v3 s0 H locs ls hw hW hl
  unfold wpX9_isFree_75 at hw
  refine lv_istore (lv' := [(4, .int s0), (0, .ref (ad 42)), (1, .int v1), (2, .int v2), (3, .int v3)]) hx hb0 dX9_isFree_75 hl (by decide) rfl (fun ls hl => ?_)
  refine lv_iload_n hx hb0 dX9_isFree_77 rfl (lv_at hl 3 rfl) ?_
  refine lv_if_eq (tgt := 100) hx hb0 dX9_isFree_78 (by decide) (fun c_78 => ?_) (fun c_78 => ?_)
  · replace hw := hw.1 c_78
    exact mX9_isFree_100 X post hret K38 hK38 M L v1 v3 _ _ ls hw hW (lv_sub hl [1, 2, 4] rfl)
  · replace hw := hw.2 c_78
    refine lv_iload hx hb0 dX9_isFree_81 (lv_at hl 0 rfl) ?_
    refine lv_if_eq (tgt := 96) hx hb0 dX9_isFree_83 (by decide) (fun c_83 => ?_) (fun c_83 => ?_)
    · replace hw := hw.1 c_83
      exact mX9_isFree_96 X post hret K38 hK38 M L v1 v3 _ _ ls hw hW (lv_sub hl [1, 2, 4] rfl)
    · replace hw := hw.2 c_83
      refine lv_aload_n hx hb0 dX9_isFree_86 rfl (lv_at hl 1 rfl) ?_
      refine z_getR (k2 := 44) X hW zC7 zR_42_2 (by decide) rfl zl_X9_13 dX9_isFree_87 ?_
      refine lv_iload_n hx hb0 dX9_isFree_90 rfl (lv_at hl 4 rfl) ?_
      obtain ⟨g_91, hw⟩ := hw
      refine z_iald X hW zI_44 g_91 dX9_isFree_91 ?_
      refine lv_iload_n hx hb0 dX9_isFree_92 rfl (lv_at hl 2 rfl) ?_
      refine lv_icmp_eq (tgt := 100) hx hb0 dX9_isFree_93 (by decide) (fun c_93 => ?_) (fun c_93 => ?_)
      · replace hw := hw.1 c_93
        exact mX9_isFree_100 X post hret K38 hK38 M L v1 v3 _ _ ls hw hW (lv_sub hl [1, 2, 4] rfl)
      · replace hw := hw.2 c_93
        exact mX9_isFree_96 X post hret K38 hK38 M L v1 v3 _ _ ls hw hW (lv_sub hl [1, 2, 4] rfl)
set_option maxRecDepth 20000 in
set_option maxHeartbeats 4000000 in
theorem mX9_isFree_74 {p : Program} {l : Launch} {e : Env} {s : State} {m : MethodId} {args : Array Value} {below : List Frame} {meth : Method} {c : Code} {cells slots : Nat} {Q : State → Prop} {D : va_G} {cy : Nat → ClassId} {ad : Nat → Nat} {A : Nat → Prop} (X : zCx p rmX9_isFree s m args c cells slots cX9_isFree 5 RX9 D cy ad A) (post : Int32 → Mm → Ml → Prop) (hret : zRi p l e rmX9_isFree s m args below meth c cells slots Q cX9_isFree D cy ad A .boolean post) (K38 : Mm → Ml → Int32 → Int32 → Int32 → Prop) (hK38 : ∀ (M : Mm) (L : Ml) (v1 : Int32) (v2 : Int32) (v3 : Int32) (H : Heap) (locs : List Loc) (ls : Array Slot), K38 M L v1 v2 v3 → zWd D cy ad A s H locs M L → lv_has ls 5 [(0, .ref (ad 42)), (1, .int v1), (2, .int v2), (3, .int v3)] → W p l e rmX9_isFree s m args below meth c H locs cells slots Q (F0 m 38 ls [])) : ∀ (M : Mm) (L : Ml) (v1 : Int32) (v2 : Int32) (v3 : Int32) (H : Heap) (locs : List Loc) (ls : Array Slot), wpX9_isFree_74 post K38 M L v1 v2 v3 → zWd D cy ad A s H locs M L → lv_has ls 5 [(0, .ref (ad 42)), (1, .int v1), (2, .int v2), (3, .int v3)] → W p l e rmX9_isFree s m args below meth c H locs cells slots Q (F0 m 74 ls []) := by
  have hx := X.1.1; have hb0 := X.1.2.1; have hts := X.1.2.2.2.2
  intro M L v1 v2 v3 H locs ls hw hW hl
  unfold wpX9_isFree_74 at hw
  refine lv_iconst (v := (0 : Int32)) hx hb0 dX9_isFree_74 (by decide) ?_
  exact mX9_isFree_75 X post hret K38 hK38 M L v1 v2 v3 (0 : Int32) _ _ ls hw hW (lv_sub hl [0, 1, 2, 3] rfl)
set_option maxRecDepth 20000 in
set_option maxHeartbeats 4000000 in
theorem mX9_isFree_38 {p : Program} {l : Launch} {e : Env} {s : State} {m : MethodId} {args : Array Value} {below : List Frame} {meth : Method} {c : Code} {cells slots : Nat} {Q : State → Prop} {D : va_G} {cy : Nat → ClassId} {ad : Nat → Nat} {A : Nat → Prop} (X : zCx p rmX9_isFree s m args c cells slots cX9_isFree 5 RX9 D cy ad A) (post : Int32 → Mm → Ml → Prop) (hret : zRi p l e rmX9_isFree s m args below meth c cells slots Q cX9_isFree D cy ad A .boolean post) : ∀ (j9 : Nat) (M : Mm) (L : Ml) (v1 : Int32) (v2 : Int32) (v3 : Int32) (H : Heap) (locs : List Loc) (ls : Array Slot), wlX9_isFree_38 post j9 (M, L, v1, v2, v3) → zWd D cy ad A s H locs M L → lv_has ls 5 [(0, .ref (ad 42)), (1, .int v1), (2, .int v2), (3, .int v3)] → W p l e rmX9_isFree s m args below meth c H locs cells slots Q (F0 m 38 ls []) := by
  have hx := X.1.1; have hb0 := X.1.2.1; have hts := X.1.2.2.2.2
  intro j9
  induction j9 with
  | zero => intro M L v1 v2 v3 H locs ls hw; exact hw.elim
  | succ j9 ih =>
    obtain ⟨K38, hKe⟩ : ∃ K : Mm → Ml → Int32 → Int32 → Int32 → Prop, K = fun M L v1 v2 v3 => wlX9_isFree_38 post j9 (M, L, v1, v2, v3) := ⟨_, rfl⟩
    have hK38 : ∀ (M : Mm) (L : Ml) (v1 : Int32) (v2 : Int32) (v3 : Int32) (H : Heap) (locs : List Loc) (ls : Array Slot), K38 M L v1 v2 v3 → zWd D cy ad A s H locs M L → lv_has ls 5 [(0, .ref (ad 42)), (1, .int v1), (2, .int v2), (3, .int v3)] → W p l e rmX9_isFree s m args below meth c H locs cells slots Q (F0 m 38 ls []) := by intro M L v1 v2 v3 H locs ls hw; rw [hKe] at hw; exact ih M L v1 v2 v3 H locs ls hw
    intro M L v1 v2 v3 H locs ls hw hW hl
    have hw : wpX9_isFree_38 post K38 M L v1 v2 v3 := by rw [hKe]; exact hw
    clear ih
    unfold wpX9_isFree_38 at hw
    refine lv_iload_n hx hb0 dX9_isFree_38 rfl (lv_at hl 3 rfl) ?_
    refine lv_bipush (v := (8 : Int32)) hx hb0 dX9_isFree_39 (by decide) ?_
    refine lv_icmp_ge (tgt := 108) hx hb0 dX9_isFree_41 (by decide) (fun c_41 => ?_) (fun c_41 => ?_)
    · replace hw := hw.1 c_41
      refine lv_iload_n hx hb0 dX9_isFree_108 rfl (lv_at hl 2 rfl) ?_
      exact hret _ ls _ _ v2 M L dX9_isFree_109 (z_bool hw.1) hw.2 hW
    · replace hw := hw.2 c_41
      refine lv_aload_n hx hb0 dX9_isFree_44 rfl (lv_at hl 0 rfl) ?_
      refine lv_iload_n hx hb0 dX9_isFree_45 rfl (lv_at hl 3 rfl) ?_
      refine z_Vi X zO_42 zC7 zc_X9_isFlake zs_X9_isFlake zl_X9_113 rfl ⟨rfl, rfl⟩ ⟨Nat.le_of_ble_eq_true rfl, Nat.le_of_ble_eq_true rfl⟩ (kX9_isFlake l D cy ad X.2.2.2.1 v3) hW hw hl.1 rfl rfl (Nat.le_of_ble_eq_true rfl) dX9_isFree_46 (fun r_46 M_46 L_46 H_46 locs_46 hw hW => ?_)
      refine lv_if_eq (tgt := 74) hx hb0 dX9_isFree_49 (by decide) (fun c_49 => ?_) (fun c_49 => ?_)
      · replace hw := hw.1 c_49
        exact mX9_isFree_74 X post hret K38 hK38 M_46 L_46 v1 v2 v3 _ _ ls hw hW (lv_sub hl [0, 1, 2, 3] rfl)
      · replace hw := hw.2 c_49
        refine lv_aload_n hx hb0 dX9_isFree_52 rfl (lv_at hl 0 rfl) ?_
        refine z_getR (k2 := 45) X hW zC7 zR_42_3 (by decide) rfl zl_X9_16 dX9_isFree_53 ?_
        refine lv_iload_n hx hb0 dX9_isFree_56 rfl (lv_at hl 3 rfl) ?_
        obtain ⟨g_57, hw⟩ := hw
        refine z_iald X hW zI_45 g_57 dX9_isFree_57 ?_
        refine lv_if_ne (tgt := 74) hx hb0 dX9_isFree_58 (by decide) (fun c_58 => ?_) (fun c_58 => ?_)
        · replace hw := hw.1 c_58
          exact mX9_isFree_74 X post hret K38 hK38 M_46 L_46 v1 v2 v3 _ _ ls hw hW (lv_sub hl [0, 1, 2, 3] rfl)
        · replace hw := hw.2 c_58
          refine lv_aload_n hx hb0 dX9_isFree_61 rfl (lv_at hl 0 rfl) ?_
          refine z_getR (k2 := 47) X hW zC7 zR_42_5 (by decide) rfl zl_X9_22 dX9_isFree_62 ?_
          refine lv_iload_n hx hb0 dX9_isFree_65 rfl (lv_at hl 3 rfl) ?_
          obtain ⟨g_66, hw⟩ := hw
          refine z_iald X hW zI_47 g_66 dX9_isFree_66 ?_
          refine lv_if_ge (tgt := 74) hx hb0 dX9_isFree_67 (by decide) (fun c_67 => ?_) (fun c_67 => ?_)
          · replace hw := hw.1 c_67
            exact mX9_isFree_74 X post hret K38 hK38 M_46 L_46 v1 v2 v3 _ _ ls hw hW (lv_sub hl [0, 1, 2, 3] rfl)
          · replace hw := hw.2 c_67
            refine lv_iconst (v := (1 : Int32)) hx hb0 dX9_isFree_70 (by decide) ?_
            refine lv_goto (tgt := 75) hx hb0 dX9_isFree_71 (by decide) ?_
            exact mX9_isFree_75 X post hret K38 hK38 M_46 L_46 v1 v2 v3 (1 : Int32) _ _ ls hw hW (lv_sub hl [0, 1, 2, 3] rfl)
set_option maxRecDepth 20000 in
set_option maxHeartbeats 4000000 in
theorem mX9_isFree_4 {p : Program} {l : Launch} {e : Env} {s : State} {m : MethodId} {args : Array Value} {below : List Frame} {meth : Method} {c : Code} {cells slots : Nat} {Q : State → Prop} {D : va_G} {cy : Nat → ClassId} {ad : Nat → Nat} {A : Nat → Prop} (X : zCx p rmX9_isFree s m args c cells slots cX9_isFree 5 RX9 D cy ad A) (post : Int32 → Mm → Ml → Prop) (hret : zRi p l e rmX9_isFree s m args below meth c cells slots Q cX9_isFree D cy ad A .boolean post) : ∀ (j9 : Nat) (M : Mm) (L : Ml) (v1 : Int32) (v2 : Int32) (v3 : Int32) (H : Heap) (locs : List Loc) (ls : Array Slot), wlX9_isFree_4 post j9 (M, L, v1, v2, v3) → zWd D cy ad A s H locs M L → lv_has ls 5 [(0, .ref (ad 42)), (1, .int v1), (2, .int v2), (3, .int v3)] → W p l e rmX9_isFree s m args below meth c H locs cells slots Q (F0 m 4 ls []) := by
  have hx := X.1.1; have hb0 := X.1.2.1; have hts := X.1.2.2.2.2
  intro j9
  induction j9 with
  | zero => intro M L v1 v2 v3 H locs ls hw; exact hw.elim
  | succ j9 ih =>
    obtain ⟨K4, hKe⟩ : ∃ K : Mm → Ml → Int32 → Int32 → Int32 → Prop, K = fun M L v1 v2 v3 => wlX9_isFree_4 post j9 (M, L, v1, v2, v3) := ⟨_, rfl⟩
    have hK4 : ∀ (M : Mm) (L : Ml) (v1 : Int32) (v2 : Int32) (v3 : Int32) (H : Heap) (locs : List Loc) (ls : Array Slot), K4 M L v1 v2 v3 → zWd D cy ad A s H locs M L → lv_has ls 5 [(0, .ref (ad 42)), (1, .int v1), (2, .int v2), (3, .int v3)] → W p l e rmX9_isFree s m args below meth c H locs cells slots Q (F0 m 4 ls []) := by intro M L v1 v2 v3 H locs ls hw; rw [hKe] at hw; exact ih M L v1 v2 v3 H locs ls hw
    intro M L v1 v2 v3 H locs ls hw hW hl
    have hw : wpX9_isFree_4 post K4 M L v1 v2 v3 := by rw [hKe]; exact hw
    clear ih
    unfold wpX9_isFree_4 at hw
    refine lv_iload_n hx hb0 dX9_isFree_4 rfl (lv_at hl 3 rfl) ?_
    refine lv_bipush (v := (6 : Int32)) hx hb0 dX9_isFree_5 (by decide) ?_
    refine lv_icmp_ge (tgt := 36) hx hb0 dX9_isFree_7 (by decide) (fun c_7 => ?_) (fun c_7 => ?_)
    · replace hw := hw.1 c_7
      refine lv_iconst (v := (0 : Int32)) hx hb0 dX9_isFree_36 (by decide) ?_
      refine lv_istore_n (lv' := [(3, .int (0 : Int32)), (0, .ref (ad 42)), (1, .int v1), (2, .int v2)]) hx hb0 dX9_isFree_37 rfl hl (by decide) rfl (fun ls hl => ?_)
      obtain ⟨n_38, hw⟩ := hw
      exact mX9_isFree_38 X post hret n_38 M L v1 v2 (0 : Int32) _ _ ls hw hW (lv_sub hl [1, 2, 3, 0] rfl)
    · replace hw := hw.2 c_7
      refine lv_iload_n hx hb0 dX9_isFree_10 rfl (lv_at hl 2 rfl) ?_
      refine lv_if_eq (tgt := 28) hx hb0 dX9_isFree_11 (by decide) (fun c_11 => ?_) (fun c_11 => ?_)
      · replace hw := hw.1 c_11
        exact mX9_isFree_28 X post hret K4 hK4 M L v1 v3 _ _ ls hw hW (lv_sub hl [0, 1, 3] rfl)
      · replace hw := hw.2 c_11
        refine lv_aload_n hx hb0 dX9_isFree_14 rfl (lv_at hl 0 rfl) ?_
        refine z_getR (k2 := 48) X hW zC7 zR_42_6 (by decide) rfl zl_X9_25 dX9_isFree_15 ?_
        refine lv_iload_n hx hb0 dX9_isFree_18 rfl (lv_at hl 3 rfl) ?_
        obtain ⟨g_19, hw⟩ := hw
        refine z_iald X hW zI_48 g_19 dX9_isFree_19 ?_
        refine lv_iload_n hx hb0 dX9_isFree_20 rfl (lv_at hl 1 rfl) ?_
        refine lv_icmp_eq (tgt := 28) hx hb0 dX9_isFree_21 (by decide) (fun c_21 => ?_) (fun c_21 => ?_)
        · replace hw := hw.1 c_21
          exact mX9_isFree_28 X post hret K4 hK4 M L v1 v3 _ _ ls hw hW (lv_sub hl [0, 1, 3] rfl)
        · replace hw := hw.2 c_21
          refine lv_iconst (v := (1 : Int32)) hx hb0 dX9_isFree_24 (by decide) ?_
          refine lv_goto (tgt := 29) hx hb0 dX9_isFree_25 (by decide) ?_
          exact mX9_isFree_29 X post hret K4 hK4 M L v1 v3 (1 : Int32) _ _ ls hw hW (lv_sub hl [0, 1, 3] rfl)
set_option maxRecDepth 20000 in
set_option maxHeartbeats 4000000 in
theorem mX9_isFree {p : Program} {l : Launch} {e : Env} {s : State} {m : MethodId} {args : Array Value} {below : List Frame} {meth : Method} {c : Code} {cells slots : Nat} {Q : State → Prop} {D : va_G} {cy : Nat → ClassId} {ad : Nat → Nat} {A : Nat → Prop} (X : zCx p rmX9_isFree s m args c cells slots cX9_isFree 5 RX9 D cy ad A) (post : Int32 → Mm → Ml → Prop) (hret : zRi p l e rmX9_isFree s m args below meth c cells slots Q cX9_isFree D cy ad A .boolean post) : ∀ (M : Mm) (L : Ml) (x1 : Int32) (H : Heap) (locs : List Loc) (ls : Array Slot), wpX9_isFree x1 M L post → zWd D cy ad A s H locs M L → lv_has ls 5 [(0, .ref (ad 42)), (1, .int x1)] → W p l e rmX9_isFree s m args below meth c H locs cells slots Q (F0 m 0 ls []) := by
  have hx := X.1.1; have hb0 := X.1.2.1; have hts := X.1.2.2.2.2
  intro M L x1 H locs ls hw hW hl
  unfold wpX9_isFree at hw
  refine lv_iconst (v := (1 : Int32)) hx hb0 dX9_isFree_0 (by decide) ?_
  refine lv_istore_n (lv' := [(2, .int (1 : Int32)), (0, .ref (ad 42)), (1, .int x1)]) hx hb0 dX9_isFree_1 rfl hl (by decide) rfl (fun ls hl => ?_)
  refine lv_iconst (v := (0 : Int32)) hx hb0 dX9_isFree_2 (by decide) ?_
  refine lv_istore_n (lv' := [(3, .int (0 : Int32)), (2, .int (1 : Int32)), (0, .ref (ad 42)), (1, .int x1)]) hx hb0 dX9_isFree_3 rfl hl (by decide) rfl (fun ls hl => ?_)
  obtain ⟨n_4, hw⟩ := hw
  exact mX9_isFree_4 X post hret n_4 M L x1 (1 : Int32) (0 : Int32) _ _ ls hw hW (lv_sub hl [2, 3, 1, 0] rfl)
theorem kX9_isFree (l : Launch) (D : va_G) (cy : Nat → ClassId) (ad : Nat → Nat) (hi : zInj ad) (x1 : Int32) : zMi l yX9_isFree (.code yX9_isFree cX9_isFree 5 (some .boolean) :: zG) rmX9_isFree D cy ad [.ref (ad 42), .int x1] (wpX9_isFree x1) :=
  zMi_of (by decide +kernel) (Nat.le_of_ble_eq_true rfl) hi (fun X M L post _ hret ls hl hw hW => mX9_isFree X post hret M L x1 _ _ ls hw hW hl)
abbrev rmX9_patch : Room := { frames := 3, cells := 0, slots := 0, locals := 70 }
set_option maxRecDepth 20000 in
set_option maxHeartbeats 4000000 in
theorem mX9_patch_80 {p : Program} {l : Launch} {e : Env} {s : State} {m : MethodId} {args : Array Value} {below : List Frame} {meth : Method} {c : Code} {cells slots : Nat} {Q : State → Prop} {D : va_G} {cy : Nat → ClassId} {ad : Nat → Nat} {A : Nat → Prop} (X : zCx p rmX9_patch s m args c cells slots cX9_patch 6 RX9 D cy ad A) (post : Int32 → Mm → Ml → Prop) (hret : zRi p l e rmX9_patch s m args below meth c cells slots Q cX9_patch D cy ad A .int post) (K24 : Mm → Ml → Int32 → Int32 → Int32 → Int32 → Int32 → Prop) (hK24 : ∀ (M : Mm) (L : Ml) (v1 : Int32) (v2 : Int32) (v3 : Int32) (v4 : Int32) (v5 : Int32) (H : Heap) (locs : List Loc) (ls : Array Slot), K24 M L v1 v2 v3 v4 v5 → zWd D cy ad A s H locs M L → lv_has ls 6 [(0, .ref (ad 42)), (1, .int v1), (2, .int v2), (3, .int v3), (4, .int v4), (5, .int v5)] → W p l e rmX9_patch s m args below meth c H locs cells slots Q (F0 m 24 ls [])) : ∀ (M : Mm) (L : Ml) (v1 : Int32) (v3 : Int32) (v4 : Int32) (v5 : Int32) (s0 : Int32) (H : Heap) (locs : List Loc) (ls : Array Slot), wpX9_patch_80 post K24 M L v1 v3 v4 v5 s0 → zWd D cy ad A s H locs M L → lv_has ls 6 [(0, .ref (ad 42)), (1, .int v1), (3, .int v3), (4, .int v4), (5, .int v5)] → W p l e rmX9_patch s m args below meth c H locs cells slots Q (F0 m 80 ls [.int s0]) := by
  have hx := X.1.1; have hb0 := X.1.2.1; have hts := X.1.2.2.2.2
  intro M L v1 v3 v4 v5 s0 H locs ls hw hW hl
  unfold wpX9_patch_80 at hw
  refine lv_istore_n (lv' := [(2, .int s0), (0, .ref (ad 42)), (1, .int v1), (3, .int v3), (4, .int v4), (5, .int v5)]) hx hb0 dX9_patch_80 rfl hl (by decide) rfl (fun ls hl => ?_)
  obtain ⟨a_81, e_81⟩ : ∃ y : Int32, y = v5 + (1 : Int32) := ⟨_, rfl⟩
  replace hw := hw a_81 e_81
  refine lv_iinc (v := a_81) (lv' := [(5, .int a_81), (2, .int s0), (0, .ref (ad 42)), (1, .int v1), (3, .int v3), (4, .int v4)]) hx hb0 dX9_patch_81 hl (k := 5) rfl (by rw [e_81]; rfl) (by decide) rfl (fun ls hl => ?_)
  refine lv_goto (tgt := 24) hx hb0 dX9_patch_84 (by decide) ?_
  exact hK24 M L v1 s0 v3 v4 a_81 _ _ ls hw hW (lv_sub hl [2, 3, 1, 4, 5, 0] rfl)
set_option maxRecDepth 20000 in
set_option maxHeartbeats 4000000 in
theorem mX9_patch_67 {p : Program} {l : Launch} {e : Env} {s : State} {m : MethodId} {args : Array Value} {below : List Frame} {meth : Method} {c : Code} {cells slots : Nat} {Q : State → Prop} {D : va_G} {cy : Nat → ClassId} {ad : Nat → Nat} {A : Nat → Prop} (X : zCx p rmX9_patch s m args c cells slots cX9_patch 6 RX9 D cy ad A) (post : Int32 → Mm → Ml → Prop) (hret : zRi p l e rmX9_patch s m args below meth c cells slots Q cX9_patch D cy ad A .int post) (K24 : Mm → Ml → Int32 → Int32 → Int32 → Int32 → Int32 → Prop) (hK24 : ∀ (M : Mm) (L : Ml) (v1 : Int32) (v2 : Int32) (v3 : Int32) (v4 : Int32) (v5 : Int32) (H : Heap) (locs : List Loc) (ls : Array Slot), K24 M L v1 v2 v3 v4 v5 → zWd D cy ad A s H locs M L → lv_has ls 6 [(0, .ref (ad 42)), (1, .int v1), (2, .int v2), (3, .int v3), (4, .int v4), (5, .int v5)] → W p l e rmX9_patch s m args below meth c H locs cells slots Q (F0 m 24 ls [])) : ∀ (M : Mm) (L : Ml) (v1 : Int32) (v2 : Int32) (v4 : Int32) (v5 : Int32) (s0 : Int32) (H : Heap) (locs : List Loc) (ls : Array Slot), wpX9_patch_67 post K24 M L v1 v2 v4 v5 s0 → zWd D cy ad A s H locs M L → lv_has ls 6 [(0, .ref (ad 42)), (1, .int v1), (2, .int v2), (4, .int v4), (5, .int v5)] → W p l e rmX9_patch s m args below meth c H locs cells slots Q (F0 m 67 ls [.int s0]) := by
  have hx := X.1.1; have hb0 := X.1.2.1; have hts := X.1.2.2.2.2
  intro M L v1 v2 v4 v5 s0 H locs ls hw hW hl
  unfold wpX9_patch_67 at hw
  refine lv_istore_n (lv' := [(3, .int s0), (0, .ref (ad 42)), (1, .int v1), (2, .int v2), (4, .int v4), (5, .int v5)]) hx hb0 dX9_patch_67 rfl hl (by decide) rfl (fun ls hl => ?_)
  refine lv_iload hx hb0 dX9_patch_68 (lv_at hl 4 rfl) ?_
  refine lv_iload_n hx hb0 dX9_patch_70 rfl (lv_at hl 3 rfl) ?_
  refine lv_icmp_le (tgt := 79) hx hb0 dX9_patch_71 (by decide) (fun c_71 => ?_) (fun c_71 => ?_)
  · replace hw := hw.1 c_71
    refine lv_iload_n hx hb0 dX9_patch_79 rfl (lv_at hl 3 rfl) ?_
    exact mX9_patch_80 X post hret K24 hK24 M L v1 s0 v4 v5 v2 _ _ ls hw hW (lv_sub hl [1, 2, 0, 4, 5] rfl)
  · replace hw := hw.2 c_71
    refine lv_iload hx hb0 dX9_patch_74 (lv_at hl 4 rfl) ?_
    refine lv_goto (tgt := 80) hx hb0 dX9_patch_76 (by decide) ?_
    exact mX9_patch_80 X post hret K24 hK24 M L v1 s0 v4 v5 v4 _ _ ls hw hW (lv_sub hl [1, 2, 0, 4, 5] rfl)
set_option maxRecDepth 20000 in
set_option maxHeartbeats 4000000 in
theorem mX9_patch_48 {p : Program} {l : Launch} {e : Env} {s : State} {m : MethodId} {args : Array Value} {below : List Frame} {meth : Method} {c : Code} {cells slots : Nat} {Q : State → Prop} {D : va_G} {cy : Nat → ClassId} {ad : Nat → Nat} {A : Nat → Prop} (X : zCx p rmX9_patch s m args c cells slots cX9_patch 6 RX9 D cy ad A) (post : Int32 → Mm → Ml → Prop) (hret : zRi p l e rmX9_patch s m args below meth c cells slots Q cX9_patch D cy ad A .int post) (K24 : Mm → Ml → Int32 → Int32 → Int32 → Int32 → Int32 → Prop) (hK24 : ∀ (M : Mm) (L : Ml) (v1 : Int32) (v2 : Int32) (v3 : Int32) (v4 : Int32) (v5 : Int32) (H : Heap) (locs : List Loc) (ls : Array Slot), K24 M L v1 v2 v3 v4 v5 → zWd D cy ad A s H locs M L → lv_has ls 6 [(0, .ref (ad 42)), (1, .int v1), (2, .int v2), (3, .int v3), (4, .int v4), (5, .int v5)] → W p l e rmX9_patch s m args below meth c H locs cells slots Q (F0 m 24 ls [])) : ∀ (M : Mm) (L : Ml) (v1 : Int32) (v2 : Int32) (v3 : Int32) (v5 : Int32) (s0 : Int32) (H : Heap) (locs : List Loc) (ls : Array Slot), wpX9_patch_48 post K24 M L v1 v2 v3 v5 s0 → zWd D cy ad A s H locs M L → lv_has ls 6 [(0, .ref (ad 42)), (1, .int v1), (2, .int v2), (3, .int v3), (5, .int v5)] → W p l e rmX9_patch s m args below meth c H locs cells slots Q (F0 m 48 ls [.int s0]) := by
  have hx := X.1.1; have hb0 := X.1.2.1; have hts := X.1.2.2.2.2
  intro M L v1 v2 v3 v5 s0 H locs ls hw hW hl
  unfold wpX9_patch_48 at hw
  refine lv_istore (lv' := [(4, .int s0), (0, .ref (ad 42)), (1, .int v1), (2, .int v2), (3, .int v3), (5, .int v5)]) hx hb0 dX9_patch_48 hl (by decide) rfl (fun ls hl => ?_)
  refine lv_iload hx hb0 dX9_patch_50 (lv_at hl 0 rfl) ?_
  refine lv_iload_n hx hb0 dX9_patch_52 rfl (lv_at hl 3 rfl) ?_
  refine lv_icmp_le (tgt := 66) hx hb0 dX9_patch_53 (by decide) (fun c_53 => ?_) (fun c_53 => ?_)
  · replace hw := hw.1 c_53
    refine lv_iload_n hx hb0 dX9_patch_66 rfl (lv_at hl 4 rfl) ?_
    exact mX9_patch_67 X post hret K24 hK24 M L v1 v2 s0 v5 v3 _ _ ls hw hW (lv_sub hl [1, 2, 3, 0, 5] rfl)
  · replace hw := hw.2 c_53
    refine lv_iload hx hb0 dX9_patch_56 (lv_at hl 5 rfl) ?_
    refine lv_iload hx hb0 dX9_patch_58 (lv_at hl 0 rfl) ?_
    refine lv_isub hx hb0 dX9_patch_60 ?_
    refine lv_iconst (v := (1 : Int32)) hx hb0 dX9_patch_61 (by decide) ?_
    refine lv_iadd hx hb0 dX9_patch_62 ?_
    refine lv_goto (tgt := 67) hx hb0 dX9_patch_63 (by decide) ?_
    exact mX9_patch_67 X post hret K24 hK24 M L v1 v2 s0 v5 ((v5 - s0) + (1 : Int32)) _ _ ls hw hW (lv_sub hl [1, 2, 3, 0, 5] rfl)
set_option maxRecDepth 20000 in
set_option maxHeartbeats 4000000 in
theorem mX9_patch_96 {p : Program} {l : Launch} {e : Env} {s : State} {m : MethodId} {args : Array Value} {below : List Frame} {meth : Method} {c : Code} {cells slots : Nat} {Q : State → Prop} {D : va_G} {cy : Nat → ClassId} {ad : Nat → Nat} {A : Nat → Prop} (X : zCx p rmX9_patch s m args c cells slots cX9_patch 6 RX9 D cy ad A) (post : Int32 → Mm → Ml → Prop) (hret : zRi p l e rmX9_patch s m args below meth c cells slots Q cX9_patch D cy ad A .int post) : ∀ (M : Mm) (L : Ml) (s0 : Int32) (H : Heap) (locs : List Loc) (ls : Array Slot), wpX9_patch_96 post M L s0 → zWd D cy ad A s H locs M L → lv_has ls 6 [] → W p l e rmX9_patch s m args below meth c H locs cells slots Q (F0 m 96 ls [.int s0]) := by
  have hx := X.1.1; have hb0 := X.1.2.1; have hts := X.1.2.2.2.2
  intro M L s0 H locs ls hw hW hl
  unfold wpX9_patch_96 at hw
  exact hret _ ls _ _ s0 M L dX9_patch_96 rfl hw hW
set_option maxRecDepth 20000 in
set_option maxHeartbeats 4000000 in
theorem mX9_patch_24 {p : Program} {l : Launch} {e : Env} {s : State} {m : MethodId} {args : Array Value} {below : List Frame} {meth : Method} {c : Code} {cells slots : Nat} {Q : State → Prop} {D : va_G} {cy : Nat → ClassId} {ad : Nat → Nat} {A : Nat → Prop} (X : zCx p rmX9_patch s m args c cells slots cX9_patch 6 RX9 D cy ad A) (post : Int32 → Mm → Ml → Prop) (hret : zRi p l e rmX9_patch s m args below meth c cells slots Q cX9_patch D cy ad A .int post) : ∀ (j9 : Nat) (M : Mm) (L : Ml) (v1 : Int32) (v2 : Int32) (v3 : Int32) (v4 : Int32) (v5 : Int32) (H : Heap) (locs : List Loc) (ls : Array Slot), wlX9_patch_24 post j9 (M, L, v1, v2, v3, v4, v5) → zWd D cy ad A s H locs M L → lv_has ls 6 [(0, .ref (ad 42)), (1, .int v1), (2, .int v2), (3, .int v3), (4, .int v4), (5, .int v5)] → W p l e rmX9_patch s m args below meth c H locs cells slots Q (F0 m 24 ls []) := by
  have hx := X.1.1; have hb0 := X.1.2.1; have hts := X.1.2.2.2.2
  intro j9
  induction j9 with
  | zero => intro M L v1 v2 v3 v4 v5 H locs ls hw; exact hw.elim
  | succ j9 ih =>
    obtain ⟨K24, hKe⟩ : ∃ K : Mm → Ml → Int32 → Int32 → Int32 → Int32 → Int32 → Prop, K = fun M L v1 v2 v3 v4 v5 => wlX9_patch_24 post j9 (M, L, v1, v2, v3, v4, v5) := ⟨_, rfl⟩
    have hK24 : ∀ (M : Mm) (L : Ml) (v1 : Int32) (v2 : Int32) (v3 : Int32) (v4 : Int32) (v5 : Int32) (H : Heap) (locs : List Loc) (ls : Array Slot), K24 M L v1 v2 v3 v4 v5 → zWd D cy ad A s H locs M L → lv_has ls 6 [(0, .ref (ad 42)), (1, .int v1), (2, .int v2), (3, .int v3), (4, .int v4), (5, .int v5)] → W p l e rmX9_patch s m args below meth c H locs cells slots Q (F0 m 24 ls []) := by intro M L v1 v2 v3 v4 v5 H locs ls hw; rw [hKe] at hw; exact ih M L v1 v2 v3 v4 v5 H locs ls hw
    intro M L v1 v2 v3 v4 v5 H locs ls hw hW hl
    have hw : wpX9_patch_24 post K24 M L v1 v2 v3 v4 v5 := by rw [hKe]; exact hw
    clear ih
    unfold wpX9_patch_24 at hw
    refine lv_iload hx hb0 dX9_patch_24 (lv_at hl 5 rfl) ?_
    refine lv_bipush (v := (16 : Int32)) hx hb0 dX9_patch_26 (by decide) ?_
    refine lv_icmp_ge (tgt := 87) hx hb0 dX9_patch_28 (by decide) (fun c_28 => ?_) (fun c_28 => ?_)
    · replace hw := hw.1 c_28
      refine lv_iload_n hx hb0 dX9_patch_87 rfl (lv_at hl 1 rfl) ?_
      refine lv_if_ne (tgt := 95) hx hb0 dX9_patch_88 (by decide) (fun c_88 => ?_) (fun c_88 => ?_)
      · replace hw := hw.1 c_88
        refine lv_iload_n hx hb0 dX9_patch_95 rfl (lv_at hl 3 rfl) ?_
        exact mX9_patch_96 X post hret M L v3 _ _ ls hw hW (lv_sub hl [] rfl)
      · replace hw := hw.2 c_88
        refine lv_iload_n hx hb0 dX9_patch_91 rfl (lv_at hl 2 rfl) ?_
        refine lv_goto (tgt := 96) hx hb0 dX9_patch_92 (by decide) ?_
        exact mX9_patch_96 X post hret M L v2 _ _ ls hw hW (lv_sub hl [] rfl)
    · replace hw := hw.2 c_28
      refine lv_aload_n hx hb0 dX9_patch_31 rfl (lv_at hl 0 rfl) ?_
      refine lv_iload hx hb0 dX9_patch_32 (lv_at hl 5 rfl) ?_
      refine z_Vi X zO_42 zC7 zc_X9_isFree zs_X9_isFree zl_X9_242 rfl ⟨rfl, rfl⟩ ⟨Nat.le_of_ble_eq_true rfl, Nat.le_of_ble_eq_true rfl⟩ (kX9_isFree l D cy ad X.2.2.2.1 v5) hW hw hl.1 rfl rfl (Nat.le_of_ble_eq_true rfl) dX9_patch_34 (fun r_34 M_34 L_34 H_34 locs_34 hw hW => ?_)
      refine lv_if_eq (tgt := 47) hx hb0 dX9_patch_37 (by decide) (fun c_37 => ?_) (fun c_37 => ?_)
      · replace hw := hw.1 c_37
        refine lv_iconst (v := (0 : Int32)) hx hb0 dX9_patch_47 (by decide) ?_
        exact mX9_patch_48 X post hret K24 hK24 M_34 L_34 v1 v2 v3 v5 (0 : Int32) _ _ ls hw hW (lv_sub hl [0, 1, 2, 3, 5] rfl)
      · replace hw := hw.2 c_37
        refine lv_iload hx hb0 dX9_patch_40 (lv_at hl 4 rfl) ?_
        refine lv_iconst (v := (1 : Int32)) hx hb0 dX9_patch_42 (by decide) ?_
        refine lv_iadd hx hb0 dX9_patch_43 ?_
        refine lv_goto (tgt := 48) hx hb0 dX9_patch_44 (by decide) ?_
        exact mX9_patch_48 X post hret K24 hK24 M_34 L_34 v1 v2 v3 v5 (v4 + (1 : Int32)) _ _ ls hw hW (lv_sub hl [0, 1, 2, 3, 5] rfl)
set_option maxRecDepth 20000 in
set_option maxHeartbeats 4000000 in
theorem mX9_patch {p : Program} {l : Launch} {e : Env} {s : State} {m : MethodId} {args : Array Value} {below : List Frame} {meth : Method} {c : Code} {cells slots : Nat} {Q : State → Prop} {D : va_G} {cy : Nat → ClassId} {ad : Nat → Nat} {A : Nat → Prop} (X : zCx p rmX9_patch s m args c cells slots cX9_patch 6 RX9 D cy ad A) (post : Int32 → Mm → Ml → Prop) (hret : zRi p l e rmX9_patch s m args below meth c cells slots Q cX9_patch D cy ad A .int post) : ∀ (M : Mm) (L : Ml) (x1 : Int32) (H : Heap) (locs : List Loc) (ls : Array Slot), wpX9_patch x1 M L post → zWd D cy ad A s H locs M L → lv_has ls 6 [(0, .ref (ad 42)), (1, .int x1)] → W p l e rmX9_patch s m args below meth c H locs cells slots Q (F0 m 0 ls []) := by
  have hx := X.1.1; have hb0 := X.1.2.1; have hts := X.1.2.2.2.2
  intro M L x1 H locs ls hw hW hl
  unfold wpX9_patch at hw
  refine lv_iload_n hx hb0 dX9_patch_0 rfl (lv_at hl 1 rfl) ?_
  refine lv_i2l hx hb0 dX9_patch_1 rfl ?_
  refine lv_lconst (v := (0 : Int64)) hx hb0 dX9_patch_2 (by decide) ?_
  refine lv_lconst (v := (1 : Int64)) hx hb0 dX9_patch_3 (by decide) ?_
  refine z_Si X zc_X9_in zt_X9_in zl_X9_86 rfl ⟨rfl, rfl⟩ ⟨Nat.le_of_ble_eq_true rfl, Nat.le_of_ble_eq_true rfl⟩ (kX9_in l D cy ad X.2.2.2.1 (x1.toInt64) (0 : Int64) (1 : Int64)) hW hw hl.1 rfl rfl (Nat.le_of_ble_eq_true rfl) dX9_patch_4 (fun r_4 M_4 L_4 H_4 locs_4 hw hW => ?_)
  refine lv_if_ne (tgt := 13) hx hb0 dX9_patch_7 (by decide) (fun c_7 => ?_) (fun c_7 => ?_)
  · replace hw := hw.1 c_7
    refine lv_iconst (v := (0 : Int32)) hx hb0 dX9_patch_13 (by decide) ?_
    refine lv_istore_n (lv' := [(2, .int (0 : Int32)), (0, .ref (ad 42)), (1, .int x1)]) hx hb0 dX9_patch_14 rfl hl (by decide) rfl (fun ls hl => ?_)
    refine lv_bipush (v := (-6 : Int32)) hx hb0 dX9_patch_15 (by decide) ?_
    refine lv_istore_n (lv' := [(3, .int (-6 : Int32)), (2, .int (0 : Int32)), (0, .ref (ad 42)), (1, .int x1)]) hx hb0 dX9_patch_17 rfl hl (by decide) rfl (fun ls hl => ?_)
    refine lv_iconst (v := (0 : Int32)) hx hb0 dX9_patch_18 (by decide) ?_
    refine lv_istore (lv' := [(4, .int (0 : Int32)), (3, .int (-6 : Int32)), (2, .int (0 : Int32)), (0, .ref (ad 42)), (1, .int x1)]) hx hb0 dX9_patch_19 hl (by decide) rfl (fun ls hl => ?_)
    refine lv_iconst (v := (0 : Int32)) hx hb0 dX9_patch_21 (by decide) ?_
    refine lv_istore (lv' := [(5, .int (0 : Int32)), (4, .int (0 : Int32)), (3, .int (-6 : Int32)), (2, .int (0 : Int32)), (0, .ref (ad 42)), (1, .int x1)]) hx hb0 dX9_patch_22 hl (by decide) rfl (fun ls hl => ?_)
    obtain ⟨n_24, hw⟩ := hw
    exact mX9_patch_24 X post hret n_24 M_4 L_4 x1 (0 : Int32) (-6 : Int32) (0 : Int32) (0 : Int32) _ _ ls hw hW (lv_sub hl [4, 5, 3, 2, 1, 0] rfl)
  · replace hw := hw.2 c_7
    refine lv_bipush (v := (-2 : Int32)) hx hb0 dX9_patch_10 (by decide) ?_
    exact hret _ ls _ _ (-2 : Int32) M_4 L_4 dX9_patch_12 rfl hw hW
theorem kX9_patch (l : Launch) (D : va_G) (cy : Nat → ClassId) (ad : Nat → Nat) (hi : zInj ad) (x1 : Int32) : zMi l yX9_patch (.code yX9_patch cX9_patch 6 (some .int) :: zG) rmX9_patch D cy ad [.ref (ad 42), .int x1] (wpX9_patch x1) :=
  zMi_of (by decide +kernel) (Nat.le_of_ble_eq_true rfl) hi (fun X M L post _ hret ls hl hw hW => mX9_patch X post hret M L x1 _ _ ls hw hW hl)
abbrev rmX9_seen : Room := { frames := 2, cells := 0, slots := 0, locals := 45 }
set_option maxRecDepth 20000 in
set_option maxHeartbeats 4000000 in
theorem mX9_seen_14 {p : Program} {l : Launch} {e : Env} {s : State} {m : MethodId} {args : Array Value} {below : List Frame} {meth : Method} {c : Code} {cells slots : Nat} {Q : State → Prop} {D : va_G} {cy : Nat → ClassId} {ad : Nat → Nat} {A : Nat → Prop} (X : zCx p rmX9_seen s m args c cells slots cX9_seen 3 RX9 D cy ad A) (post : Int32 → Mm → Ml → Prop) (hret : zRi p l e rmX9_seen s m args below meth c cells slots Q cX9_seen D cy ad A .int post) : ∀ (M : Mm) (L : Ml) (H : Heap) (locs : List Loc) (ls : Array Slot), wpX9_seen_14 post M L → zWd D cy ad A s H locs M L → lv_has ls 3 [] → W p l e rmX9_seen s m args below meth c H locs cells slots Q (F0 m 14 ls []) := by
  have hx := X.1.1; have hb0 := X.1.2.1; have hts := X.1.2.2.2.2
  intro M L H locs ls hw hW hl
  unfold wpX9_seen_14 at hw
  refine lv_bipush (v := (-2 : Int32)) hx hb0 dX9_seen_14 (by decide) ?_
  exact hret _ ls _ _ (-2 : Int32) M L dX9_seen_16 rfl hw hW
set_option maxRecDepth 20000 in
set_option maxHeartbeats 4000000 in
theorem mX9_seen {p : Program} {l : Launch} {e : Env} {s : State} {m : MethodId} {args : Array Value} {below : List Frame} {meth : Method} {c : Code} {cells slots : Nat} {Q : State → Prop} {D : va_G} {cy : Nat → ClassId} {ad : Nat → Nat} {A : Nat → Prop} (X : zCx p rmX9_seen s m args c cells slots cX9_seen 3 RX9 D cy ad A) (post : Int32 → Mm → Ml → Prop) (hret : zRi p l e rmX9_seen s m args below meth c cells slots Q cX9_seen D cy ad A .int post) : ∀ (M : Mm) (L : Ml) (x1 : Int32) (x2 : Int32) (H : Heap) (locs : List Loc) (ls : Array Slot), wpX9_seen x1 x2 M L post → zWd D cy ad A s H locs M L → lv_has ls 3 [(0, .ref (ad 42)), (1, .int x1), (2, .int x2)] → W p l e rmX9_seen s m args below meth c H locs cells slots Q (F0 m 0 ls []) := by
  have hx := X.1.1; have hb0 := X.1.2.1; have hts := X.1.2.2.2.2
  intro M L x1 x2 H locs ls hw hW hl
  unfold wpX9_seen at hw
  refine lv_iload_n hx hb0 dX9_seen_0 rfl (lv_at hl 1 rfl) ?_
  refine z_Si X zc_X9_isArm zt_X9_isArm zl_X9_102 rfl ⟨rfl, rfl⟩ ⟨Nat.le_of_ble_eq_true rfl, Nat.le_of_ble_eq_true rfl⟩ (kX9_isArm l D cy ad X.2.2.2.1 x1) hW hw hl.1 rfl rfl (Nat.le_of_ble_eq_true rfl) dX9_seen_1 (fun r_1 M_1 L_1 H_1 locs_1 hw hW => ?_)
  refine lv_if_eq (tgt := 14) hx hb0 dX9_seen_4 (by decide) (fun c_4 => ?_) (fun c_4 => ?_)
  · replace hw := hw.1 c_4
    exact mX9_seen_14 X post hret M_1 L_1 _ _ ls hw hW (lv_sub hl [] rfl)
  · replace hw := hw.2 c_4
    refine lv_iload_n hx hb0 dX9_seen_7 rfl (lv_at hl 2 rfl) ?_
    refine z_Si X zc_X9_isArm zt_X9_isArm zl_X9_102 rfl ⟨rfl, rfl⟩ ⟨Nat.le_of_ble_eq_true rfl, Nat.le_of_ble_eq_true rfl⟩ (kX9_isArm l D cy ad X.2.2.2.1 x2) hW hw hl.1 rfl rfl (Nat.le_of_ble_eq_true rfl) dX9_seen_8 (fun r_8 M_8 L_8 H_8 locs_8 hw hW => ?_)
    refine lv_if_ne (tgt := 17) hx hb0 dX9_seen_11 (by decide) (fun c_11 => ?_) (fun c_11 => ?_)
    · replace hw := hw.1 c_11
      refine lv_aload_n hx hb0 dX9_seen_17 rfl (lv_at hl 0 rfl) ?_
      refine z_getI X hW zC7 zF_42_11 (by decide) rfl zl_X9_245 dX9_seen_18 ?_
      refine lv_bipush (v := (8 : Int32)) hx hb0 dX9_seen_21 (by decide) ?_
      refine lv_icmp_ne (tgt := 29) hx hb0 dX9_seen_23 (by decide) (fun c_23 => ?_) (fun c_23 => ?_)
      · replace hw := hw.1 c_23
        refine lv_aload_n hx hb0 dX9_seen_29 rfl (lv_at hl 0 rfl) ?_
        refine z_getR (k2 := 51) X hW zC7 zR_42_9 (by decide) rfl zl_X9_34 dX9_seen_30 ?_
        refine lv_aload_n hx hb0 dX9_seen_33 rfl (lv_at hl 0 rfl) ?_
        refine z_getI X hW zC7 zF_42_11 (by decide) rfl zl_X9_245 dX9_seen_34 ?_
        refine lv_iload_n hx hb0 dX9_seen_37 rfl (lv_at hl 1 rfl) ?_
        obtain ⟨g_38, hw⟩ := hw
        refine z_iast X hW zI_51 g_38 dX9_seen_38 (fun M_38 H_38 locs_38 e_38 hW => ?_)
        replace hw := hw M_38 e_38
        refine lv_aload_n hx hb0 dX9_seen_39 rfl (lv_at hl 0 rfl) ?_
        refine z_getR (k2 := 52) X hW zC7 zR_42_10 (by decide) rfl zl_X9_37 dX9_seen_40 ?_
        refine lv_aload_n hx hb0 dX9_seen_43 rfl (lv_at hl 0 rfl) ?_
        refine z_getI X hW zC7 zF_42_11 (by decide) rfl zl_X9_245 dX9_seen_44 ?_
        refine lv_iload_n hx hb0 dX9_seen_47 rfl (lv_at hl 2 rfl) ?_
        obtain ⟨g_48, hw⟩ := hw
        refine z_iast X hW zI_52 g_48 dX9_seen_48 (fun M_48 H_48 locs_48 e_48 hW => ?_)
        replace hw := hw M_48 e_48
        refine lv_aload_n hx hb0 dX9_seen_49 rfl (lv_at hl 0 rfl) ?_
        refine lv_dup hx hb0 dX9_seen_50 rfl ?_
        refine z_getI X hW zC7 zF_42_11 (by decide) rfl zl_X9_245 dX9_seen_51 ?_
        refine lv_iconst (v := (1 : Int32)) hx hb0 dX9_seen_54 (by decide) ?_
        refine lv_iadd hx hb0 dX9_seen_55 ?_
        refine z_put (ty := .int) X hW zC7 zF_42_11 (by decide) rfl zl_X9_245 rfl (by decide +kernel) rfl rfl dX9_seen_56 (fun M_56 H_56 locs_56 e_56 hW => ?_)
        replace hw := hw M_56 e_56
        refine lv_aload_n hx hb0 dX9_seen_59 rfl (lv_at hl 0 rfl) ?_
        refine z_getI X hW zC7 zF_42_11 (by decide) rfl zl_X9_245 dX9_seen_60 ?_
        exact hret _ ls _ _ (M_56 42 11) M_56 L_8 dX9_seen_63 rfl hw hW
      · replace hw := hw.2 c_23
        refine lv_bipush (v := (-4 : Int32)) hx hb0 dX9_seen_26 (by decide) ?_
        exact hret _ ls _ _ (-4 : Int32) M_8 L_8 dX9_seen_28 rfl hw hW
    · replace hw := hw.2 c_11
      exact mX9_seen_14 X post hret M_8 L_8 _ _ ls hw hW (lv_sub hl [] rfl)
theorem kX9_seen (l : Launch) (D : va_G) (cy : Nat → ClassId) (ad : Nat → Nat) (hi : zInj ad) (x1 : Int32) (x2 : Int32) : zMi l yX9_seen (.code yX9_seen cX9_seen 3 (some .int) :: zG) rmX9_seen D cy ad [.ref (ad 42), .int x1, .int x2] (wpX9_seen x1 x2) :=
  zMi_of (by decide +kernel) (Nat.le_of_ble_eq_true rfl) hi (fun X M L post _ hret ls hl hw hW => mX9_seen X post hret M L x1 x2 _ _ ls hw hW hl)
abbrev rmX9_forget : Room := { frames := 0, cells := 0, slots := 0, locals := 0 }
set_option maxRecDepth 20000 in
set_option maxHeartbeats 4000000 in
theorem mX9_forget {p : Program} {l : Launch} {e : Env} {s : State} {m : MethodId} {args : Array Value} {below : List Frame} {meth : Method} {c : Code} {cells slots : Nat} {Q : State → Prop} {D : va_G} {cy : Nat → ClassId} {ad : Nat → Nat} {A : Nat → Prop} (X : zCx p rmX9_forget s m args c cells slots cX9_forget 2 RX9 D cy ad A) (post : Int32 → Mm → Ml → Prop) (hret : zRi p l e rmX9_forget s m args below meth c cells slots Q cX9_forget D cy ad A .int post) : ∀ (M : Mm) (L : Ml) (H : Heap) (locs : List Loc) (ls : Array Slot), wpX9_forget M L post → zWd D cy ad A s H locs M L → lv_has ls 2 [(0, .ref (ad 42))] → W p l e rmX9_forget s m args below meth c H locs cells slots Q (F0 m 0 ls []) := by
  have hx := X.1.1; have hb0 := X.1.2.1; have hts := X.1.2.2.2.2
  intro M L H locs ls hw hW hl
  unfold wpX9_forget at hw
  refine lv_aload_n hx hb0 dX9_forget_0 rfl (lv_at hl 0 rfl) ?_
  refine z_getI X hW zC7 zF_42_11 (by decide) rfl zl_X9_245 dX9_forget_1 ?_
  refine lv_topi (fun a_4 e_4 => ?_)
  replace hw := hw a_4 e_4
  refine lv_istore_n (lv' := [(1, .int a_4), (0, .ref (ad 42))]) hx hb0 dX9_forget_4 rfl hl (by decide) rfl (fun ls hl => ?_)
  refine lv_aload_n hx hb0 dX9_forget_5 rfl (lv_at hl 1 rfl) ?_
  refine lv_iconst (v := (0 : Int32)) hx hb0 dX9_forget_6 (by decide) ?_
  refine z_put (ty := .int) X hW zC7 zF_42_11 (by decide) rfl zl_X9_245 rfl (by decide +kernel) rfl rfl dX9_forget_7 (fun M_7 H_7 locs_7 e_7 hW => ?_)
  replace hw := hw M_7 e_7
  refine lv_iload_n hx hb0 dX9_forget_10 rfl (lv_at hl 0 rfl) ?_
  exact hret _ ls _ _ a_4 M_7 L dX9_forget_11 rfl hw hW
theorem kX9_forget (l : Launch) (D : va_G) (cy : Nat → ClassId) (ad : Nat → Nat) (hi : zInj ad) : zMi l yX9_forget (.code yX9_forget cX9_forget 2 (some .int) :: zG) rmX9_forget D cy ad [.ref (ad 42)] (wpX9_forget) :=
  zMi_of (by decide +kernel) (Nat.le_of_ble_eq_true rfl) hi (fun X M L post _ hret ls hl hw hW => mX9_forget X post hret M L _ _ ls hw hW hl)
abbrev rmX9_fits : Room := { frames := 1, cells := 0, slots := 0, locals := 27 }
set_option maxRecDepth 20000 in
set_option maxHeartbeats 4000000 in
theorem mX9_fits_40 {p : Program} {l : Launch} {e : Env} {s : State} {m : MethodId} {args : Array Value} {below : List Frame} {meth : Method} {c : Code} {cells slots : Nat} {Q : State → Prop} {D : va_G} {cy : Nat → ClassId} {ad : Nat → Nat} {A : Nat → Prop} (X : zCx p rmX9_fits s m args c cells slots cX9_fits 4 RX9 D cy ad A) (post : Int32 → Mm → Ml → Prop) (hret : zRi p l e rmX9_fits s m args below meth c cells slots Q cX9_fits D cy ad A .boolean post) (K4 : Mm → Ml → Int32 → Int32 → Int32 → Prop) (hK4 : ∀ (M : Mm) (L : Ml) (v1 : Int32) (v2 : Int32) (v3 : Int32) (H : Heap) (locs : List Loc) (ls : Array Slot), K4 M L v1 v2 v3 → zWd D cy ad A s H locs M L → lv_has ls 4 [(0, .ref (ad 42)), (1, .int v1), (2, .int v2), (3, .int v3)] → W p l e rmX9_fits s m args below meth c H locs cells slots Q (F0 m 4 ls [])) : ∀ (M : Mm) (L : Ml) (v1 : Int32) (v3 : Int32) (s0 : Int32) (H : Heap) (locs : List Loc) (ls : Array Slot), wpX9_fits_40 post K4 M L v1 v3 s0 → zWd D cy ad A s H locs M L → lv_has ls 4 [(0, .ref (ad 42)), (1, .int v1), (3, .int v3)] → W p l e rmX9_fits s m args below meth c H locs cells slots Q (F0 m 40 ls [.int s0]) := by
  have hx := X.1.1; have hb0 := X.1.2.1; have hts := X.1.2.2.2.2
  intro M L v1 v3 s0 H locs ls hw hW hl
  unfold wpX9_fits_40 at hw
  refine lv_istore_n (lv' := [(2, .int s0), (0, .ref (ad 42)), (1, .int v1), (3, .int v3)]) hx hb0 dX9_fits_40 rfl hl (by decide) rfl (fun ls hl => ?_)
  obtain ⟨a_41, e_41⟩ : ∃ y : Int32, y = v3 + (1 : Int32) := ⟨_, rfl⟩
  replace hw := hw a_41 e_41
  refine lv_iinc (v := a_41) (lv' := [(3, .int a_41), (2, .int s0), (0, .ref (ad 42)), (1, .int v1)]) hx hb0 dX9_fits_41 hl (k := 3) rfl (by rw [e_41]; rfl) (by decide) rfl (fun ls hl => ?_)
  refine lv_goto (tgt := 4) hx hb0 dX9_fits_44 (by decide) ?_
  exact hK4 M L v1 s0 a_41 _ _ ls hw hW (lv_sub hl [2, 3, 1, 0] rfl)
set_option maxRecDepth 20000 in
set_option maxHeartbeats 4000000 in
theorem mX9_fits_39 {p : Program} {l : Launch} {e : Env} {s : State} {m : MethodId} {args : Array Value} {below : List Frame} {meth : Method} {c : Code} {cells slots : Nat} {Q : State → Prop} {D : va_G} {cy : Nat → ClassId} {ad : Nat → Nat} {A : Nat → Prop} (X : zCx p rmX9_fits s m args c cells slots cX9_fits 4 RX9 D cy ad A) (post : Int32 → Mm → Ml → Prop) (hret : zRi p l e rmX9_fits s m args below meth c cells slots Q cX9_fits D cy ad A .boolean post) (K4 : Mm → Ml → Int32 → Int32 → Int32 → Prop) (hK4 : ∀ (M : Mm) (L : Ml) (v1 : Int32) (v2 : Int32) (v3 : Int32) (H : Heap) (locs : List Loc) (ls : Array Slot), K4 M L v1 v2 v3 → zWd D cy ad A s H locs M L → lv_has ls 4 [(0, .ref (ad 42)), (1, .int v1), (2, .int v2), (3, .int v3)] → W p l e rmX9_fits s m args below meth c H locs cells slots Q (F0 m 4 ls [])) : ∀ (M : Mm) (L : Ml) (v1 : Int32) (v3 : Int32) (H : Heap) (locs : List Loc) (ls : Array Slot), wpX9_fits_39 post K4 M L v1 v3 → zWd D cy ad A s H locs M L → lv_has ls 4 [(0, .ref (ad 42)), (1, .int v1), (3, .int v3)] → W p l e rmX9_fits s m args below meth c H locs cells slots Q (F0 m 39 ls []) := by
  have hx := X.1.1; have hb0 := X.1.2.1; have hts := X.1.2.2.2.2
  intro M L v1 v3 H locs ls hw hW hl
  unfold wpX9_fits_39 at hw
  refine lv_iconst (v := (0 : Int32)) hx hb0 dX9_fits_39 (by decide) ?_
  exact mX9_fits_40 X post hret K4 hK4 M L v1 v3 (0 : Int32) _ _ ls hw hW (lv_sub hl [0, 1, 2] rfl)
set_option maxRecDepth 20000 in
set_option maxHeartbeats 4000000 in
theorem mX9_fits_4 {p : Program} {l : Launch} {e : Env} {s : State} {m : MethodId} {args : Array Value} {below : List Frame} {meth : Method} {c : Code} {cells slots : Nat} {Q : State → Prop} {D : va_G} {cy : Nat → ClassId} {ad : Nat → Nat} {A : Nat → Prop} (X : zCx p rmX9_fits s m args c cells slots cX9_fits 4 RX9 D cy ad A) (post : Int32 → Mm → Ml → Prop) (hret : zRi p l e rmX9_fits s m args below meth c cells slots Q cX9_fits D cy ad A .boolean post) : ∀ (j9 : Nat) (M : Mm) (L : Ml) (v1 : Int32) (v2 : Int32) (v3 : Int32) (H : Heap) (locs : List Loc) (ls : Array Slot), wlX9_fits_4 post j9 (M, L, v1, v2, v3) → zWd D cy ad A s H locs M L → lv_has ls 4 [(0, .ref (ad 42)), (1, .int v1), (2, .int v2), (3, .int v3)] → W p l e rmX9_fits s m args below meth c H locs cells slots Q (F0 m 4 ls []) := by
  have hx := X.1.1; have hb0 := X.1.2.1; have hts := X.1.2.2.2.2
  intro j9
  induction j9 with
  | zero => intro M L v1 v2 v3 H locs ls hw; exact hw.elim
  | succ j9 ih =>
    obtain ⟨K4, hKe⟩ : ∃ K : Mm → Ml → Int32 → Int32 → Int32 → Prop, K = fun M L v1 v2 v3 => wlX9_fits_4 post j9 (M, L, v1, v2, v3) := ⟨_, rfl⟩
    have hK4 : ∀ (M : Mm) (L : Ml) (v1 : Int32) (v2 : Int32) (v3 : Int32) (H : Heap) (locs : List Loc) (ls : Array Slot), K4 M L v1 v2 v3 → zWd D cy ad A s H locs M L → lv_has ls 4 [(0, .ref (ad 42)), (1, .int v1), (2, .int v2), (3, .int v3)] → W p l e rmX9_fits s m args below meth c H locs cells slots Q (F0 m 4 ls []) := by intro M L v1 v2 v3 H locs ls hw; rw [hKe] at hw; exact ih M L v1 v2 v3 H locs ls hw
    intro M L v1 v2 v3 H locs ls hw hW hl
    have hw : wpX9_fits_4 post K4 M L v1 v2 v3 := by rw [hKe]; exact hw
    clear ih
    unfold wpX9_fits_4 at hw
    refine lv_iload_n hx hb0 dX9_fits_4 rfl (lv_at hl 3 rfl) ?_
    refine lv_aload_n hx hb0 dX9_fits_5 rfl (lv_at hl 0 rfl) ?_
    refine z_getI X hW zC7 zF_42_11 (by decide) rfl zl_X9_245 dX9_fits_6 ?_
    refine lv_icmp_ge (tgt := 47) hx hb0 dX9_fits_9 (by decide) (fun c_9 => ?_) (fun c_9 => ?_)
    · replace hw := hw.1 c_9
      refine lv_iload_n hx hb0 dX9_fits_47 rfl (lv_at hl 2 rfl) ?_
      exact hret _ ls _ _ v2 M L dX9_fits_48 (z_bool hw.1) hw.2 hW
    · replace hw := hw.2 c_9
      refine lv_iload_n hx hb0 dX9_fits_12 rfl (lv_at hl 2 rfl) ?_
      refine lv_if_eq (tgt := 39) hx hb0 dX9_fits_13 (by decide) (fun c_13 => ?_) (fun c_13 => ?_)
      · replace hw := hw.1 c_13
        exact mX9_fits_39 X post hret K4 hK4 M L v1 v3 _ _ ls hw hW (lv_sub hl [0, 1, 3] rfl)
      · replace hw := hw.2 c_13
        refine lv_aload_n hx hb0 dX9_fits_16 rfl (lv_at hl 0 rfl) ?_
        refine z_getR (k2 := 51) X hW zC7 zR_42_9 (by decide) rfl zl_X9_34 dX9_fits_17 ?_
        refine lv_iload_n hx hb0 dX9_fits_20 rfl (lv_at hl 3 rfl) ?_
        obtain ⟨g_21, hw⟩ := hw
        refine z_iald X hW zI_51 g_21 dX9_fits_21 ?_
        refine lv_iload_n hx hb0 dX9_fits_22 rfl (lv_at hl 1 rfl) ?_
        refine z_Si X zc_X9_grown zt_X9_grown zl_X9_144 rfl ⟨rfl, rfl⟩ ⟨Nat.le_of_ble_eq_true rfl, Nat.le_of_ble_eq_true rfl⟩ (kX9_grown l D cy ad X.2.2.2.1 (M 51 v3.toNatClampNeg) v1) hW hw hl.1 rfl rfl (Nat.le_of_ble_eq_true rfl) dX9_fits_23 (fun r_23 M_23 L_23 H_23 locs_23 hw hW => ?_)
        refine lv_aload_n hx hb0 dX9_fits_26 rfl (lv_at hl 0 rfl) ?_
        refine z_getR (k2 := 52) X hW zC7 zR_42_10 (by decide) rfl zl_X9_37 dX9_fits_27 ?_
        refine lv_iload_n hx hb0 dX9_fits_30 rfl (lv_at hl 3 rfl) ?_
        obtain ⟨g_31, hw⟩ := hw
        refine z_iald X hW zI_52 g_31 dX9_fits_31 ?_
        refine lv_icmp_ne (tgt := 39) hx hb0 dX9_fits_32 (by decide) (fun c_32 => ?_) (fun c_32 => ?_)
        · replace hw := hw.1 c_32
          exact mX9_fits_39 X post hret K4 hK4 M_23 L_23 v1 v3 _ _ ls hw hW (lv_sub hl [0, 1, 3] rfl)
        · replace hw := hw.2 c_32
          refine lv_iconst (v := (1 : Int32)) hx hb0 dX9_fits_35 (by decide) ?_
          refine lv_goto (tgt := 40) hx hb0 dX9_fits_36 (by decide) ?_
          exact mX9_fits_40 X post hret K4 hK4 M_23 L_23 v1 v3 (1 : Int32) _ _ ls hw hW (lv_sub hl [0, 1, 3] rfl)
set_option maxRecDepth 20000 in
set_option maxHeartbeats 4000000 in
theorem mX9_fits {p : Program} {l : Launch} {e : Env} {s : State} {m : MethodId} {args : Array Value} {below : List Frame} {meth : Method} {c : Code} {cells slots : Nat} {Q : State → Prop} {D : va_G} {cy : Nat → ClassId} {ad : Nat → Nat} {A : Nat → Prop} (X : zCx p rmX9_fits s m args c cells slots cX9_fits 4 RX9 D cy ad A) (post : Int32 → Mm → Ml → Prop) (hret : zRi p l e rmX9_fits s m args below meth c cells slots Q cX9_fits D cy ad A .boolean post) : ∀ (M : Mm) (L : Ml) (x1 : Int32) (H : Heap) (locs : List Loc) (ls : Array Slot), wpX9_fits x1 M L post → zWd D cy ad A s H locs M L → lv_has ls 4 [(0, .ref (ad 42)), (1, .int x1)] → W p l e rmX9_fits s m args below meth c H locs cells slots Q (F0 m 0 ls []) := by
  have hx := X.1.1; have hb0 := X.1.2.1; have hts := X.1.2.2.2.2
  intro M L x1 H locs ls hw hW hl
  unfold wpX9_fits at hw
  refine lv_iconst (v := (1 : Int32)) hx hb0 dX9_fits_0 (by decide) ?_
  refine lv_istore_n (lv' := [(2, .int (1 : Int32)), (0, .ref (ad 42)), (1, .int x1)]) hx hb0 dX9_fits_1 rfl hl (by decide) rfl (fun ls hl => ?_)
  refine lv_iconst (v := (0 : Int32)) hx hb0 dX9_fits_2 (by decide) ?_
  refine lv_istore_n (lv' := [(3, .int (0 : Int32)), (2, .int (1 : Int32)), (0, .ref (ad 42)), (1, .int x1)]) hx hb0 dX9_fits_3 rfl hl (by decide) rfl (fun ls hl => ?_)
  obtain ⟨n_4, hw⟩ := hw
  exact mX9_fits_4 X post hret n_4 M L x1 (1 : Int32) (0 : Int32) _ _ ls hw hW (lv_sub hl [2, 3, 1, 0] rfl)
theorem kX9_fits (l : Launch) (D : va_G) (cy : Nat → ClassId) (ad : Nat → Nat) (hi : zInj ad) (x1 : Int32) : zMi l yX9_fits (.code yX9_fits cX9_fits 4 (some .boolean) :: zG) rmX9_fits D cy ad [.ref (ad 42), .int x1] (wpX9_fits x1) :=
  zMi_of (by decide +kernel) (Nat.le_of_ble_eq_true rfl) hi (fun X M L post _ hret ls hl hw hW => mX9_fits X post hret M L x1 _ _ ls hw hW hl)
abbrev rmX9_laws : Room := { frames := 2, cells := 0, slots := 0, locals := 50 }
set_option maxRecDepth 20000 in
set_option maxHeartbeats 4000000 in
theorem mX9_laws_29 {p : Program} {l : Launch} {e : Env} {s : State} {m : MethodId} {args : Array Value} {below : List Frame} {meth : Method} {c : Code} {cells slots : Nat} {Q : State → Prop} {D : va_G} {cy : Nat → ClassId} {ad : Nat → Nat} {A : Nat → Prop} (X : zCx p rmX9_laws s m args c cells slots cX9_laws 4 RX9 D cy ad A) (post : Int32 → Mm → Ml → Prop) (hret : zRi p l e rmX9_laws s m args below meth c cells slots Q cX9_laws D cy ad A .int post) (K4 : Mm → Ml → Int32 → Int32 → Int32 → Prop) (hK4 : ∀ (M : Mm) (L : Ml) (v1 : Int32) (v2 : Int32) (v3 : Int32) (H : Heap) (locs : List Loc) (ls : Array Slot), K4 M L v1 v2 v3 → zWd D cy ad A s H locs M L → lv_has ls 4 [(0, .ref (ad 42)), (1, .int v1), (2, .int v2), (3, .int v3)] → W p l e rmX9_laws s m args below meth c H locs cells slots Q (F0 m 4 ls [])) : ∀ (M : Mm) (L : Ml) (v1 : Int32) (v2 : Int32) (v3 : Int32) (H : Heap) (locs : List Loc) (ls : Array Slot), wpX9_laws_29 post K4 M L v1 v2 v3 → zWd D cy ad A s H locs M L → lv_has ls 4 [(0, .ref (ad 42)), (1, .int v1), (2, .int v2), (3, .int v3)] → W p l e rmX9_laws s m args below meth c H locs cells slots Q (F0 m 29 ls []) := by
  have hx := X.1.1; have hb0 := X.1.2.1; have hts := X.1.2.2.2.2
  intro M L v1 v2 v3 H locs ls hw hW hl
  unfold wpX9_laws_29 at hw
  obtain ⟨a_29, e_29⟩ : ∃ y : Int32, y = v3 + (1 : Int32) := ⟨_, rfl⟩
  replace hw := hw a_29 e_29
  refine lv_iinc (v := a_29) (lv' := [(3, .int a_29), (0, .ref (ad 42)), (1, .int v1), (2, .int v2)]) hx hb0 dX9_laws_29 hl (k := 3) rfl (by rw [e_29]; rfl) (by decide) rfl (fun ls hl => ?_)
  refine lv_goto (tgt := 4) hx hb0 dX9_laws_32 (by decide) ?_
  exact hK4 M L v1 v2 a_29 _ _ ls hw hW (lv_sub hl [1, 2, 3, 0] rfl)
set_option maxRecDepth 20000 in
set_option maxHeartbeats 4000000 in
theorem mX9_laws_46 {p : Program} {l : Launch} {e : Env} {s : State} {m : MethodId} {args : Array Value} {below : List Frame} {meth : Method} {c : Code} {cells slots : Nat} {Q : State → Prop} {D : va_G} {cy : Nat → ClassId} {ad : Nat → Nat} {A : Nat → Prop} (X : zCx p rmX9_laws s m args c cells slots cX9_laws 4 RX9 D cy ad A) (post : Int32 → Mm → Ml → Prop) (hret : zRi p l e rmX9_laws s m args below meth c cells slots Q cX9_laws D cy ad A .int post) : ∀ (M : Mm) (L : Ml) (s0 : Int32) (H : Heap) (locs : List Loc) (ls : Array Slot), wpX9_laws_46 post M L s0 → zWd D cy ad A s H locs M L → lv_has ls 4 [] → W p l e rmX9_laws s m args below meth c H locs cells slots Q (F0 m 46 ls [.int s0]) := by
  have hx := X.1.1; have hb0 := X.1.2.1; have hts := X.1.2.2.2.2
  intro M L s0 H locs ls hw hW hl
  unfold wpX9_laws_46 at hw
  exact hret _ ls _ _ s0 M L dX9_laws_46 rfl hw hW
set_option maxRecDepth 20000 in
set_option maxHeartbeats 4000000 in
theorem mX9_laws_4 {p : Program} {l : Launch} {e : Env} {s : State} {m : MethodId} {args : Array Value} {below : List Frame} {meth : Method} {c : Code} {cells slots : Nat} {Q : State → Prop} {D : va_G} {cy : Nat → ClassId} {ad : Nat → Nat} {A : Nat → Prop} (X : zCx p rmX9_laws s m args c cells slots cX9_laws 4 RX9 D cy ad A) (post : Int32 → Mm → Ml → Prop) (hret : zRi p l e rmX9_laws s m args below meth c cells slots Q cX9_laws D cy ad A .int post) : ∀ (j9 : Nat) (M : Mm) (L : Ml) (v1 : Int32) (v2 : Int32) (v3 : Int32) (H : Heap) (locs : List Loc) (ls : Array Slot), wlX9_laws_4 post j9 (M, L, v1, v2, v3) → zWd D cy ad A s H locs M L → lv_has ls 4 [(0, .ref (ad 42)), (1, .int v1), (2, .int v2), (3, .int v3)] → W p l e rmX9_laws s m args below meth c H locs cells slots Q (F0 m 4 ls []) := by
  have hx := X.1.1; have hb0 := X.1.2.1; have hts := X.1.2.2.2.2
  intro j9
  induction j9 with
  | zero => intro M L v1 v2 v3 H locs ls hw; exact hw.elim
  | succ j9 ih =>
    obtain ⟨K4, hKe⟩ : ∃ K : Mm → Ml → Int32 → Int32 → Int32 → Prop, K = fun M L v1 v2 v3 => wlX9_laws_4 post j9 (M, L, v1, v2, v3) := ⟨_, rfl⟩
    have hK4 : ∀ (M : Mm) (L : Ml) (v1 : Int32) (v2 : Int32) (v3 : Int32) (H : Heap) (locs : List Loc) (ls : Array Slot), K4 M L v1 v2 v3 → zWd D cy ad A s H locs M L → lv_has ls 4 [(0, .ref (ad 42)), (1, .int v1), (2, .int v2), (3, .int v3)] → W p l e rmX9_laws s m args below meth c H locs cells slots Q (F0 m 4 ls []) := by intro M L v1 v2 v3 H locs ls hw; rw [hKe] at hw; exact ih M L v1 v2 v3 H locs ls hw
    intro M L v1 v2 v3 H locs ls hw hW hl
    have hw : wpX9_laws_4 post K4 M L v1 v2 v3 := by rw [hKe]; exact hw
    clear ih
    unfold wpX9_laws_4 at hw
    refine lv_iload_n hx hb0 dX9_laws_4 rfl (lv_at hl 3 rfl) ?_
    refine lv_sipush (v := (256 : Int32)) hx hb0 dX9_laws_5 (by decide) ?_
    refine lv_icmp_ge (tgt := 35) hx hb0 dX9_laws_8 (by decide) (fun c_8 => ?_) (fun c_8 => ?_)
    · replace hw := hw.1 c_8
      refine lv_iload_n hx hb0 dX9_laws_35 rfl (lv_at hl 1 rfl) ?_
      refine lv_iconst (v := (-1 : Int32)) hx hb0 dX9_laws_36 (by decide) ?_
      refine lv_icmp_ne (tgt := 44) hx hb0 dX9_laws_37 (by decide) (fun c_37 => ?_) (fun c_37 => ?_)
      · replace hw := hw.1 c_37
        refine lv_bipush (v := (-6 : Int32)) hx hb0 dX9_laws_44 (by decide) ?_
        exact mX9_laws_46 X post hret M L (-6 : Int32) _ _ ls hw hW (lv_sub hl [] rfl)
      · replace hw := hw.2 c_37
        refine lv_iload_n hx hb0 dX9_laws_40 rfl (lv_at hl 2 rfl) ?_
        refine lv_goto (tgt := 46) hx hb0 dX9_laws_41 (by decide) ?_
        exact mX9_laws_46 X post hret M L v2 _ _ ls hw hW (lv_sub hl [] rfl)
    · replace hw := hw.2 c_8
      refine lv_aload_n hx hb0 dX9_laws_11 rfl (lv_at hl 0 rfl) ?_
      refine lv_iload_n hx hb0 dX9_laws_12 rfl (lv_at hl 3 rfl) ?_
      refine z_Vi X zO_42 zC7 zc_X9_fits zs_X9_fits zl_X9_248 rfl ⟨rfl, rfl⟩ ⟨Nat.le_of_ble_eq_true rfl, Nat.le_of_ble_eq_true rfl⟩ (kX9_fits l D cy ad X.2.2.2.1 v3) hW hw hl.1 rfl rfl (Nat.le_of_ble_eq_true rfl) dX9_laws_13 (fun r_13 M_13 L_13 H_13 locs_13 hw hW => ?_)
      refine lv_if_eq (tgt := 29) hx hb0 dX9_laws_16 (by decide) (fun c_16 => ?_) (fun c_16 => ?_)
      · replace hw := hw.1 c_16
        exact mX9_laws_29 X post hret K4 hK4 M_13 L_13 v1 v2 v3 _ _ ls hw hW (lv_sub hl [0, 1, 2, 3] rfl)
      · replace hw := hw.2 c_16
        refine lv_iload_n hx hb0 dX9_laws_19 rfl (lv_at hl 2 rfl) ?_
        refine lv_iload_n hx hb0 dX9_laws_20 rfl (lv_at hl 1 rfl) ?_
        refine lv_icmp_ne (tgt := 26) hx hb0 dX9_laws_21 (by decide) (fun c_21 => ?_) (fun c_21 => ?_)
        · replace hw := hw.1 c_21
          obtain ⟨a_26, e_26⟩ : ∃ y : Int32, y = v2 + (1 : Int32) := ⟨_, rfl⟩
          replace hw := hw a_26 e_26
          refine lv_iinc (v := a_26) (lv' := [(2, .int a_26), (0, .ref (ad 42)), (1, .int v1), (3, .int v3)]) hx hb0 dX9_laws_26 hl (k := 2) rfl (by rw [e_26]; rfl) (by decide) rfl (fun ls hl => ?_)
          exact mX9_laws_29 X post hret K4 hK4 M_13 L_13 v1 a_26 v3 _ _ ls hw hW (lv_sub hl [1, 2, 0, 3] rfl)
        · replace hw := hw.2 c_21
          refine lv_iload_n hx hb0 dX9_laws_24 rfl (lv_at hl 3 rfl) ?_
          exact hret _ ls _ _ v3 M_13 L_13 dX9_laws_25 rfl hw hW
set_option maxRecDepth 20000 in
set_option maxHeartbeats 4000000 in
theorem mX9_laws {p : Program} {l : Launch} {e : Env} {s : State} {m : MethodId} {args : Array Value} {below : List Frame} {meth : Method} {c : Code} {cells slots : Nat} {Q : State → Prop} {D : va_G} {cy : Nat → ClassId} {ad : Nat → Nat} {A : Nat → Prop} (X : zCx p rmX9_laws s m args c cells slots cX9_laws 4 RX9 D cy ad A) (post : Int32 → Mm → Ml → Prop) (hret : zRi p l e rmX9_laws s m args below meth c cells slots Q cX9_laws D cy ad A .int post) : ∀ (M : Mm) (L : Ml) (x1 : Int32) (H : Heap) (locs : List Loc) (ls : Array Slot), wpX9_laws x1 M L post → zWd D cy ad A s H locs M L → lv_has ls 4 [(0, .ref (ad 42)), (1, .int x1)] → W p l e rmX9_laws s m args below meth c H locs cells slots Q (F0 m 0 ls []) := by
  have hx := X.1.1; have hb0 := X.1.2.1; have hts := X.1.2.2.2.2
  intro M L x1 H locs ls hw hW hl
  unfold wpX9_laws at hw
  refine lv_iconst (v := (0 : Int32)) hx hb0 dX9_laws_0 (by decide) ?_
  refine lv_istore_n (lv' := [(2, .int (0 : Int32)), (0, .ref (ad 42)), (1, .int x1)]) hx hb0 dX9_laws_1 rfl hl (by decide) rfl (fun ls hl => ?_)
  refine lv_iconst (v := (0 : Int32)) hx hb0 dX9_laws_2 (by decide) ?_
  refine lv_istore_n (lv' := [(3, .int (0 : Int32)), (2, .int (0 : Int32)), (0, .ref (ad 42)), (1, .int x1)]) hx hb0 dX9_laws_3 rfl hl (by decide) rfl (fun ls hl => ?_)
  obtain ⟨n_4, hw⟩ := hw
  exact mX9_laws_4 X post hret n_4 M L x1 (0 : Int32) (0 : Int32) _ _ ls hw hW (lv_sub hl [2, 3, 1, 0] rfl)
theorem kX9_laws (l : Launch) (D : va_G) (cy : Nat → ClassId) (ad : Nat → Nat) (hi : zInj ad) (x1 : Int32) : zMi l yX9_laws (.code yX9_laws cX9_laws 4 (some .int) :: zG) rmX9_laws D cy ad [.ref (ad 42), .int x1] (wpX9_laws x1) :=
  zMi_of (by decide +kernel) (Nat.le_of_ble_eq_true rfl) hi (fun X M L post _ hret ls hl hw hW => mX9_laws X post hret M L x1 _ _ ls hw hW hl)
abbrev rmX9_mostLeft : Room := { frames := 1, cells := 0, slots := 0, locals := 27 }
set_option maxRecDepth 20000 in
set_option maxHeartbeats 4000000 in
theorem mX9_mostLeft_83 {p : Program} {l : Launch} {e : Env} {s : State} {m : MethodId} {args : Array Value} {below : List Frame} {meth : Method} {c : Code} {cells slots : Nat} {Q : State → Prop} {D : va_G} {cy : Nat → ClassId} {ad : Nat → Nat} {A : Nat → Prop} (X : zCx p rmX9_mostLeft s m args c cells slots cX9_mostLeft 5 RX9 D cy ad A) (post : Int32 → Mm → Ml → Prop) (hret : zRi p l e rmX9_mostLeft s m args below meth c cells slots Q cX9_mostLeft D cy ad A .int post) (K26 : Mm → Ml → Int32 → Int32 → Int32 → Prop) (hK26 : ∀ (M : Mm) (L : Ml) (v1 : Int32) (v2 : Int32) (v3 : Int32) (H : Heap) (locs : List Loc) (ls : Array Slot), K26 M L v1 v2 v3 → zWd D cy ad A s H locs M L → lv_has ls 5 [(0, .ref (ad 42)), (1, .int v1), (2, .int v2), (3, .int v3)] → W p l e rmX9_mostLeft s m args below meth c H locs cells slots Q (F0 m 26 ls [])) : ∀ (M : Mm) (L : Ml) (v1 : Int32) (v2 : Int32) (v3 : Int32) (H : Heap) (locs : List Loc) (ls : Array Slot), wpX9_mostLeft_83 post K26 M L v1 v2 v3 → zWd D cy ad A s H locs M L → lv_has ls 5 [(0, .ref (ad 42)), (1, .int v1), (2, .int v2), (3, .int v3)] → W p l e rmX9_mostLeft s m args below meth c H locs cells slots Q (F0 m 83 ls []) := by
  have hx := X.1.1; have hb0 := X.1.2.1; have hts := X.1.2.2.2.2
  intro M L v1 v2 v3 H locs ls hw hW hl
  unfold wpX9_mostLeft_83 at hw
  obtain ⟨a_83, e_83⟩ : ∃ y : Int32, y = v3 + (1 : Int32) := ⟨_, rfl⟩
  replace hw := hw a_83 e_83
  refine lv_iinc (v := a_83) (lv' := [(3, .int a_83), (0, .ref (ad 42)), (1, .int v1), (2, .int v2)]) hx hb0 dX9_mostLeft_83 hl (k := 3) rfl (by rw [e_83]; rfl) (by decide) rfl (fun ls hl => ?_)
  refine lv_goto (tgt := 26) hx hb0 dX9_mostLeft_86 (by decide) ?_
  exact hK26 M L v1 v2 a_83 _ _ ls hw hW (lv_sub hl [1, 2, 3, 0] rfl)
set_option maxRecDepth 20000 in
set_option maxHeartbeats 4000000 in
theorem mX9_mostLeft_82 {p : Program} {l : Launch} {e : Env} {s : State} {m : MethodId} {args : Array Value} {below : List Frame} {meth : Method} {c : Code} {cells slots : Nat} {Q : State → Prop} {D : va_G} {cy : Nat → ClassId} {ad : Nat → Nat} {A : Nat → Prop} (X : zCx p rmX9_mostLeft s m args c cells slots cX9_mostLeft 5 RX9 D cy ad A) (post : Int32 → Mm → Ml → Prop) (hret : zRi p l e rmX9_mostLeft s m args below meth c cells slots Q cX9_mostLeft D cy ad A .int post) (K26 : Mm → Ml → Int32 → Int32 → Int32 → Prop) (hK26 : ∀ (M : Mm) (L : Ml) (v1 : Int32) (v2 : Int32) (v3 : Int32) (H : Heap) (locs : List Loc) (ls : Array Slot), K26 M L v1 v2 v3 → zWd D cy ad A s H locs M L → lv_has ls 5 [(0, .ref (ad 42)), (1, .int v1), (2, .int v2), (3, .int v3)] → W p l e rmX9_mostLeft s m args below meth c H locs cells slots Q (F0 m 26 ls [])) : ∀ (M : Mm) (L : Ml) (v1 : Int32) (v3 : Int32) (s0 : Int32) (H : Heap) (locs : List Loc) (ls : Array Slot), wpX9_mostLeft_82 post K26 M L v1 v3 s0 → zWd D cy ad A s H locs M L → lv_has ls 5 [(0, .ref (ad 42)), (1, .int v1), (3, .int v3)] → W p l e rmX9_mostLeft s m args below meth c H locs cells slots Q (F0 m 82 ls [.int s0]) := by
  have hx := X.1.1; have hb0 := X.1.2.1; have hts := X.1.2.2.2.2
  intro M L v1 v3 s0 H locs ls hw hW hl
  unfold wpX9_mostLeft_82 at hw
  refine lv_istore_n (lv' := [(2, .int s0), (0, .ref (ad 42)), (1, .int v1), (3, .int v3)]) hx hb0 dX9_mostLeft_82 rfl hl (by decide) rfl (fun ls hl => ?_)
  exact mX9_mostLeft_83 X post hret K26 hK26 M L v1 s0 v3 _ _ ls hw hW (lv_sub hl [1, 2, 0, 3] rfl)
set_option maxRecDepth 20000 in
set_option maxHeartbeats 4000000 in
theorem mX9_mostLeft_26 {p : Program} {l : Launch} {e : Env} {s : State} {m : MethodId} {args : Array Value} {below : List Frame} {meth : Method} {c : Code} {cells slots : Nat} {Q : State → Prop} {D : va_G} {cy : Nat → ClassId} {ad : Nat → Nat} {A : Nat → Prop} (X : zCx p rmX9_mostLeft s m args c cells slots cX9_mostLeft 5 RX9 D cy ad A) (post : Int32 → Mm → Ml → Prop) (hret : zRi p l e rmX9_mostLeft s m args below meth c cells slots Q cX9_mostLeft D cy ad A .int post) : ∀ (j9 : Nat) (M : Mm) (L : Ml) (v1 : Int32) (v2 : Int32) (v3 : Int32) (H : Heap) (locs : List Loc) (ls : Array Slot), wlX9_mostLeft_26 post j9 (M, L, v1, v2, v3) → zWd D cy ad A s H locs M L → lv_has ls 5 [(0, .ref (ad 42)), (1, .int v1), (2, .int v2), (3, .int v3)] → W p l e rmX9_mostLeft s m args below meth c H locs cells slots Q (F0 m 26 ls []) := by
  have hx := X.1.1; have hb0 := X.1.2.1; have hts := X.1.2.2.2.2
  intro j9
  induction j9 with
  | zero => intro M L v1 v2 v3 H locs ls hw; exact hw.elim
  | succ j9 ih =>
    obtain ⟨K26, hKe⟩ : ∃ K : Mm → Ml → Int32 → Int32 → Int32 → Prop, K = fun M L v1 v2 v3 => wlX9_mostLeft_26 post j9 (M, L, v1, v2, v3) := ⟨_, rfl⟩
    have hK26 : ∀ (M : Mm) (L : Ml) (v1 : Int32) (v2 : Int32) (v3 : Int32) (H : Heap) (locs : List Loc) (ls : Array Slot), K26 M L v1 v2 v3 → zWd D cy ad A s H locs M L → lv_has ls 5 [(0, .ref (ad 42)), (1, .int v1), (2, .int v2), (3, .int v3)] → W p l e rmX9_mostLeft s m args below meth c H locs cells slots Q (F0 m 26 ls []) := by intro M L v1 v2 v3 H locs ls hw; rw [hKe] at hw; exact ih M L v1 v2 v3 H locs ls hw
    intro M L v1 v2 v3 H locs ls hw hW hl
    have hw : wpX9_mostLeft_26 post K26 M L v1 v2 v3 := by rw [hKe]; exact hw
    clear ih
    unfold wpX9_mostLeft_26 at hw
    refine lv_iload_n hx hb0 dX9_mostLeft_26 rfl (lv_at hl 3 rfl) ?_
    refine lv_sipush (v := (256 : Int32)) hx hb0 dX9_mostLeft_27 (by decide) ?_
    refine lv_icmp_ge (tgt := 89) hx hb0 dX9_mostLeft_30 (by decide) (fun c_30 => ?_) (fun c_30 => ?_)
    · replace hw := hw.1 c_30
      refine lv_iload_n hx hb0 dX9_mostLeft_89 rfl (lv_at hl 2 rfl) ?_
      exact hret _ ls _ _ v2 M L dX9_mostLeft_90 rfl hw hW
    · replace hw := hw.2 c_30
      refine lv_aload_n hx hb0 dX9_mostLeft_33 rfl (lv_at hl 0 rfl) ?_
      refine z_getR (k2 := 61) X hW zC7 zR_42_27 (by decide) rfl zl_X9_65 dX9_mostLeft_34 ?_
      refine lv_iload_n hx hb0 dX9_mostLeft_37 rfl (lv_at hl 3 rfl) ?_
      obtain ⟨g_38, hw⟩ := hw
      refine z_zald X hW zI_61 g_38 dX9_mostLeft_38 ?_
      refine lv_if_eq (tgt := 83) hx hb0 dX9_mostLeft_39 (by decide) (fun c_39 => ?_) (fun c_39 => ?_)
      · replace hw := hw.1 c_39
        exact mX9_mostLeft_83 X post hret K26 hK26 M L v1 v2 v3 _ _ ls hw hW (lv_sub hl [0, 1, 2, 3] rfl)
      · replace hw := hw.2 c_39
        refine lv_iload_n hx hb0 dX9_mostLeft_42 rfl (lv_at hl 1 rfl) ?_
        refine lv_iload_n hx hb0 dX9_mostLeft_43 rfl (lv_at hl 3 rfl) ?_
        refine z_Si X zc_X9_grown zt_X9_grown zl_X9_144 rfl ⟨rfl, rfl⟩ ⟨Nat.le_of_ble_eq_true rfl, Nat.le_of_ble_eq_true rfl⟩ (kX9_grown l D cy ad X.2.2.2.1 v1 v3) hW hw hl.1 rfl rfl (Nat.le_of_ble_eq_true rfl) dX9_mostLeft_44 (fun r_44 M_44 L_44 H_44 locs_44 hw hW => ?_)
        refine lv_istore (lv' := [(4, .int r_44), (0, .ref (ad 42)), (1, .int v1), (2, .int v2), (3, .int v3)]) hx hb0 dX9_mostLeft_47 hl (by decide) rfl (fun ls hl => ?_)
        refine lv_aload_n hx hb0 dX9_mostLeft_49 rfl (lv_at hl 1 rfl) ?_
        refine z_getR (k2 := 60) X hW zC7 zR_42_26 (by decide) rfl zl_X9_62 dX9_mostLeft_50 ?_
        refine lv_iload hx hb0 dX9_mostLeft_53 (lv_at hl 0 rfl) ?_
        refine lv_dup2_11 hx hb0 dX9_mostLeft_55 rfl rfl ?_
        obtain ⟨g_56, hw⟩ := hw
        refine z_iald X hW zI_60 g_56 dX9_mostLeft_56 ?_
        refine lv_iconst (v := (1 : Int32)) hx hb0 dX9_mostLeft_57 (by decide) ?_
        refine lv_iadd hx hb0 dX9_mostLeft_58 ?_
        obtain ⟨g_59, hw⟩ := hw
        refine z_iast X hW zI_60 g_59 dX9_mostLeft_59 (fun M_59 H_59 locs_59 e_59 hW => ?_)
        replace hw := hw M_59 e_59
        refine lv_aload_n hx hb0 dX9_mostLeft_60 rfl (lv_at hl 1 rfl) ?_
        refine z_getR (k2 := 60) X hW zC7 zR_42_26 (by decide) rfl zl_X9_62 dX9_mostLeft_61 ?_
        refine lv_iload hx hb0 dX9_mostLeft_64 (lv_at hl 0 rfl) ?_
        obtain ⟨g_66, hw⟩ := hw
        refine z_iald X hW zI_60 g_66 dX9_mostLeft_66 ?_
        refine lv_iload_n hx hb0 dX9_mostLeft_67 rfl (lv_at hl 3 rfl) ?_
        refine lv_icmp_le (tgt := 81) hx hb0 dX9_mostLeft_68 (by decide) (fun c_68 => ?_) (fun c_68 => ?_)
        · replace hw := hw.1 c_68
          refine lv_iload_n hx hb0 dX9_mostLeft_81 rfl (lv_at hl 3 rfl) ?_
          exact mX9_mostLeft_82 X post hret K26 hK26 M_59 L_44 v1 v3 v2 _ _ ls hw hW (lv_sub hl [1, 2, 4] rfl)
        · replace hw := hw.2 c_68
          refine lv_aload_n hx hb0 dX9_mostLeft_71 rfl (lv_at hl 1 rfl) ?_
          refine z_getR (k2 := 60) X hW zC7 zR_42_26 (by decide) rfl zl_X9_62 dX9_mostLeft_72 ?_
          refine lv_iload hx hb0 dX9_mostLeft_75 (lv_at hl 0 rfl) ?_
          obtain ⟨g_77, hw⟩ := hw
          refine z_iald X hW zI_60 g_77 dX9_mostLeft_77 ?_
          refine lv_goto (tgt := 82) hx hb0 dX9_mostLeft_78 (by decide) ?_
          exact mX9_mostLeft_82 X post hret K26 hK26 M_59 L_44 v1 v3 (M_59 60 r_44.toNatClampNeg) _ _ ls hw hW (lv_sub hl [1, 2, 4] rfl)
set_option maxRecDepth 20000 in
set_option maxHeartbeats 4000000 in
theorem mX9_mostLeft_4 {p : Program} {l : Launch} {e : Env} {s : State} {m : MethodId} {args : Array Value} {below : List Frame} {meth : Method} {c : Code} {cells slots : Nat} {Q : State → Prop} {D : va_G} {cy : Nat → ClassId} {ad : Nat → Nat} {A : Nat → Prop} (X : zCx p rmX9_mostLeft s m args c cells slots cX9_mostLeft 5 RX9 D cy ad A) (post : Int32 → Mm → Ml → Prop) (hret : zRi p l e rmX9_mostLeft s m args below meth c cells slots Q cX9_mostLeft D cy ad A .int post) : ∀ (j9 : Nat) (M : Mm) (L : Ml) (v1 : Int32) (v2 : Int32) (v3 : Int32) (H : Heap) (locs : List Loc) (ls : Array Slot), wlX9_mostLeft_4 post j9 (M, L, v1, v2, v3) → zWd D cy ad A s H locs M L → lv_has ls 5 [(0, .ref (ad 42)), (1, .int v1), (2, .int v2), (3, .int v3)] → W p l e rmX9_mostLeft s m args below meth c H locs cells slots Q (F0 m 4 ls []) := by
  have hx := X.1.1; have hb0 := X.1.2.1; have hts := X.1.2.2.2.2
  intro j9
  induction j9 with
  | zero => intro M L v1 v2 v3 H locs ls hw; exact hw.elim
  | succ j9 ih =>
    obtain ⟨K4, hKe⟩ : ∃ K : Mm → Ml → Int32 → Int32 → Int32 → Prop, K = fun M L v1 v2 v3 => wlX9_mostLeft_4 post j9 (M, L, v1, v2, v3) := ⟨_, rfl⟩
    have hK4 : ∀ (M : Mm) (L : Ml) (v1 : Int32) (v2 : Int32) (v3 : Int32) (H : Heap) (locs : List Loc) (ls : Array Slot), K4 M L v1 v2 v3 → zWd D cy ad A s H locs M L → lv_has ls 5 [(0, .ref (ad 42)), (1, .int v1), (2, .int v2), (3, .int v3)] → W p l e rmX9_mostLeft s m args below meth c H locs cells slots Q (F0 m 4 ls []) := by intro M L v1 v2 v3 H locs ls hw; rw [hKe] at hw; exact ih M L v1 v2 v3 H locs ls hw
    intro M L v1 v2 v3 H locs ls hw hW hl
    have hw : wpX9_mostLeft_4 post K4 M L v1 v2 v3 := by rw [hKe]; exact hw
    clear ih
    unfold wpX9_mostLeft_4 at hw
    refine lv_iload_n hx hb0 dX9_mostLeft_4 rfl (lv_at hl 3 rfl) ?_
    refine lv_sipush (v := (256 : Int32)) hx hb0 dX9_mostLeft_5 (by decide) ?_
    refine lv_icmp_ge (tgt := 24) hx hb0 dX9_mostLeft_8 (by decide) (fun c_8 => ?_) (fun c_8 => ?_)
    · replace hw := hw.1 c_8
      refine lv_iconst (v := (0 : Int32)) hx hb0 dX9_mostLeft_24 (by decide) ?_
      refine lv_istore_n (lv' := [(3, .int (0 : Int32)), (0, .ref (ad 42)), (1, .int v1), (2, .int v2)]) hx hb0 dX9_mostLeft_25 rfl hl (by decide) rfl (fun ls hl => ?_)
      obtain ⟨n_26, hw⟩ := hw
      exact mX9_mostLeft_26 X post hret n_26 M L v1 v2 (0 : Int32) _ _ ls hw hW (lv_sub hl [1, 2, 3, 0] rfl)
    · replace hw := hw.2 c_8
      refine lv_aload_n hx hb0 dX9_mostLeft_11 rfl (lv_at hl 0 rfl) ?_
      refine z_getR (k2 := 60) X hW zC7 zR_42_26 (by decide) rfl zl_X9_62 dX9_mostLeft_12 ?_
      refine lv_iload_n hx hb0 dX9_mostLeft_15 rfl (lv_at hl 3 rfl) ?_
      refine lv_iconst (v := (0 : Int32)) hx hb0 dX9_mostLeft_16 (by decide) ?_
      obtain ⟨g_17, hw⟩ := hw
      refine z_iast X hW zI_60 g_17 dX9_mostLeft_17 (fun M_17 H_17 locs_17 e_17 hW => ?_)
      replace hw := hw M_17 e_17
      obtain ⟨a_18, e_18⟩ : ∃ y : Int32, y = v3 + (1 : Int32) := ⟨_, rfl⟩
      replace hw := hw a_18 e_18
      refine lv_iinc (v := a_18) (lv' := [(3, .int a_18), (0, .ref (ad 42)), (1, .int v1), (2, .int v2)]) hx hb0 dX9_mostLeft_18 hl (k := 3) rfl (by rw [e_18]; rfl) (by decide) rfl (fun ls hl => ?_)
      refine lv_goto (tgt := 4) hx hb0 dX9_mostLeft_21 (by decide) ?_
      exact hK4 M_17 L v1 v2 a_18 _ _ ls hw hW (lv_sub hl [1, 2, 3, 0] rfl)
set_option maxRecDepth 20000 in
set_option maxHeartbeats 4000000 in
theorem mX9_mostLeft {p : Program} {l : Launch} {e : Env} {s : State} {m : MethodId} {args : Array Value} {below : List Frame} {meth : Method} {c : Code} {cells slots : Nat} {Q : State → Prop} {D : va_G} {cy : Nat → ClassId} {ad : Nat → Nat} {A : Nat → Prop} (X : zCx p rmX9_mostLeft s m args c cells slots cX9_mostLeft 5 RX9 D cy ad A) (post : Int32 → Mm → Ml → Prop) (hret : zRi p l e rmX9_mostLeft s m args below meth c cells slots Q cX9_mostLeft D cy ad A .int post) : ∀ (M : Mm) (L : Ml) (x1 : Int32) (H : Heap) (locs : List Loc) (ls : Array Slot), wpX9_mostLeft x1 M L post → zWd D cy ad A s H locs M L → lv_has ls 5 [(0, .ref (ad 42)), (1, .int x1)] → W p l e rmX9_mostLeft s m args below meth c H locs cells slots Q (F0 m 0 ls []) := by
  have hx := X.1.1; have hb0 := X.1.2.1; have hts := X.1.2.2.2.2
  intro M L x1 H locs ls hw hW hl
  unfold wpX9_mostLeft at hw
  refine lv_iconst (v := (0 : Int32)) hx hb0 dX9_mostLeft_0 (by decide) ?_
  refine lv_istore_n (lv' := [(2, .int (0 : Int32)), (0, .ref (ad 42)), (1, .int x1)]) hx hb0 dX9_mostLeft_1 rfl hl (by decide) rfl (fun ls hl => ?_)
  refine lv_iconst (v := (0 : Int32)) hx hb0 dX9_mostLeft_2 (by decide) ?_
  refine lv_istore_n (lv' := [(3, .int (0 : Int32)), (2, .int (0 : Int32)), (0, .ref (ad 42)), (1, .int x1)]) hx hb0 dX9_mostLeft_3 rfl hl (by decide) rfl (fun ls hl => ?_)
  obtain ⟨n_4, hw⟩ := hw
  exact mX9_mostLeft_4 X post hret n_4 M L x1 (0 : Int32) (0 : Int32) _ _ ls hw hW (lv_sub hl [2, 3, 1, 0] rfl)
theorem kX9_mostLeft (l : Launch) (D : va_G) (cy : Nat → ClassId) (ad : Nat → Nat) (hi : zInj ad) (x1 : Int32) : zMi l yX9_mostLeft (.code yX9_mostLeft cX9_mostLeft 5 (some .int) :: zG) rmX9_mostLeft D cy ad [.ref (ad 42), .int x1] (wpX9_mostLeft x1) :=
  zMi_of (by decide +kernel) (Nat.le_of_ble_eq_true rfl) hi (fun X M L post _ hret ls hl hw hW => mX9_mostLeft X post hret M L x1 _ _ ls hw hW hl)
abbrev rmX9_look : Room := { frames := 2, cells := 0, slots := 0, locals := 51 }
set_option maxRecDepth 20000 in
set_option maxHeartbeats 4000000 in
theorem mX9_look_91 {p : Program} {l : Launch} {e : Env} {s : State} {m : MethodId} {args : Array Value} {below : List Frame} {meth : Method} {c : Code} {cells slots : Nat} {Q : State → Prop} {D : va_G} {cy : Nat → ClassId} {ad : Nat → Nat} {A : Nat → Prop} (X : zCx p rmX9_look s m args c cells slots cX9_look 6 RX9 D cy ad A) (post : Int32 → Mm → Ml → Prop) (hret : zRi p l e rmX9_look s m args below meth c cells slots Q cX9_look D cy ad A .int post) (K50 : Mm → Ml → Int32 → Int32 → Int32 → Int32 → Prop) (hK50 : ∀ (M : Mm) (L : Ml) (v1 : Int32) (v2 : Int32) (v3 : Int32) (v4 : Int32) (H : Heap) (locs : List Loc) (ls : Array Slot), K50 M L v1 v2 v3 v4 → zWd D cy ad A s H locs M L → lv_has ls 6 [(0, .ref (ad 42)), (1, .int v1), (2, .int v2), (3, .int v3), (4, .int v4)] → W p l e rmX9_look s m args below meth c H locs cells slots Q (F0 m 50 ls [])) : ∀ (M : Mm) (L : Ml) (v1 : Int32) (v2 : Int32) (v4 : Int32) (s0 : Int32) (H : Heap) (locs : List Loc) (ls : Array Slot), wpX9_look_91 post K50 M L v1 v2 v4 s0 → zWd D cy ad A s H locs M L → lv_has ls 6 [(0, .ref (ad 42)), (1, .int v1), (2, .int v2), (4, .int v4)] → W p l e rmX9_look s m args below meth c H locs cells slots Q (F0 m 91 ls [.int s0]) := by
  have hx := X.1.1; have hb0 := X.1.2.1; have hts := X.1.2.2.2.2
  intro M L v1 v2 v4 s0 H locs ls hw hW hl
  unfold wpX9_look_91 at hw
  refine lv_istore_n (lv' := [(3, .int s0), (0, .ref (ad 42)), (1, .int v1), (2, .int v2), (4, .int v4)]) hx hb0 dX9_look_91 rfl hl (by decide) rfl (fun ls hl => ?_)
  obtain ⟨a_92, e_92⟩ : ∃ y : Int32, y = v4 + (1 : Int32) := ⟨_, rfl⟩
  replace hw := hw a_92 e_92
  refine lv_iinc (v := a_92) (lv' := [(4, .int a_92), (3, .int s0), (0, .ref (ad 42)), (1, .int v1), (2, .int v2)]) hx hb0 dX9_look_92 hl (k := 4) rfl (by rw [e_92]; rfl) (by decide) rfl (fun ls hl => ?_)
  refine lv_goto (tgt := 50) hx hb0 dX9_look_95 (by decide) ?_
  exact hK50 M L v1 v2 s0 a_92 _ _ ls hw hW (lv_sub hl [2, 3, 4, 1, 0] rfl)
set_option maxRecDepth 20000 in
set_option maxHeartbeats 4000000 in
theorem mX9_look_78 {p : Program} {l : Launch} {e : Env} {s : State} {m : MethodId} {args : Array Value} {below : List Frame} {meth : Method} {c : Code} {cells slots : Nat} {Q : State → Prop} {D : va_G} {cy : Nat → ClassId} {ad : Nat → Nat} {A : Nat → Prop} (X : zCx p rmX9_look s m args c cells slots cX9_look 6 RX9 D cy ad A) (post : Int32 → Mm → Ml → Prop) (hret : zRi p l e rmX9_look s m args below meth c cells slots Q cX9_look D cy ad A .int post) (K50 : Mm → Ml → Int32 → Int32 → Int32 → Int32 → Prop) (hK50 : ∀ (M : Mm) (L : Ml) (v1 : Int32) (v2 : Int32) (v3 : Int32) (v4 : Int32) (H : Heap) (locs : List Loc) (ls : Array Slot), K50 M L v1 v2 v3 v4 → zWd D cy ad A s H locs M L → lv_has ls 6 [(0, .ref (ad 42)), (1, .int v1), (2, .int v2), (3, .int v3), (4, .int v4)] → W p l e rmX9_look s m args below meth c H locs cells slots Q (F0 m 50 ls [])) : ∀ (M : Mm) (L : Ml) (v1 : Int32) (v3 : Int32) (v4 : Int32) (v5 : Int32) (s0 : Int32) (H : Heap) (locs : List Loc) (ls : Array Slot), wpX9_look_78 post K50 M L v1 v3 v4 v5 s0 → zWd D cy ad A s H locs M L → lv_has ls 6 [(0, .ref (ad 42)), (1, .int v1), (3, .int v3), (4, .int v4), (5, .int v5)] → W p l e rmX9_look s m args below meth c H locs cells slots Q (F0 m 78 ls [.int s0]) := by
  have hx := X.1.1; have hb0 := X.1.2.1; have hts := X.1.2.2.2.2
  intro M L v1 v3 v4 v5 s0 H locs ls hw hW hl
  unfold wpX9_look_78 at hw
  refine lv_istore_n (lv' := [(2, .int s0), (0, .ref (ad 42)), (1, .int v1), (3, .int v3), (4, .int v4), (5, .int v5)]) hx hb0 dX9_look_78 rfl hl (by decide) rfl (fun ls hl => ?_)
  refine lv_iload hx hb0 dX9_look_79 (lv_at hl 5 rfl) ?_
  refine lv_iload_n hx hb0 dX9_look_81 rfl (lv_at hl 3 rfl) ?_
  refine lv_icmp_ge (tgt := 90) hx hb0 dX9_look_82 (by decide) (fun c_82 => ?_) (fun c_82 => ?_)
  · replace hw := hw.1 c_82
    refine lv_iload_n hx hb0 dX9_look_90 rfl (lv_at hl 3 rfl) ?_
    exact mX9_look_91 X post hret K50 hK50 M L v1 s0 v4 v3 _ _ ls hw hW (lv_sub hl [1, 2, 0, 4] rfl)
  · replace hw := hw.2 c_82
    refine lv_iload hx hb0 dX9_look_85 (lv_at hl 5 rfl) ?_
    refine lv_goto (tgt := 91) hx hb0 dX9_look_87 (by decide) ?_
    exact mX9_look_91 X post hret K50 hK50 M L v1 s0 v4 v5 _ _ ls hw hW (lv_sub hl [1, 2, 0, 4] rfl)
set_option maxRecDepth 20000 in
set_option maxHeartbeats 4000000 in
theorem mX9_look_116 {p : Program} {l : Launch} {e : Env} {s : State} {m : MethodId} {args : Array Value} {below : List Frame} {meth : Method} {c : Code} {cells slots : Nat} {Q : State → Prop} {D : va_G} {cy : Nat → ClassId} {ad : Nat → Nat} {A : Nat → Prop} (X : zCx p rmX9_look s m args c cells slots cX9_look 6 RX9 D cy ad A) (post : Int32 → Mm → Ml → Prop) (hret : zRi p l e rmX9_look s m args below meth c cells slots Q cX9_look D cy ad A .int post) : ∀ (M : Mm) (L : Ml) (s0 : Int32) (H : Heap) (locs : List Loc) (ls : Array Slot), wpX9_look_116 post M L s0 → zWd D cy ad A s H locs M L → lv_has ls 6 [] → W p l e rmX9_look s m args below meth c H locs cells slots Q (F0 m 116 ls [.int s0]) := by
  have hx := X.1.1; have hb0 := X.1.2.1; have hts := X.1.2.2.2.2
  intro M L s0 H locs ls hw hW hl
  unfold wpX9_look_116 at hw
  exact hret _ ls _ _ s0 M L dX9_look_116 rfl hw hW
set_option maxRecDepth 20000 in
set_option maxHeartbeats 4000000 in
theorem mX9_look_50 {p : Program} {l : Launch} {e : Env} {s : State} {m : MethodId} {args : Array Value} {below : List Frame} {meth : Method} {c : Code} {cells slots : Nat} {Q : State → Prop} {D : va_G} {cy : Nat → ClassId} {ad : Nat → Nat} {A : Nat → Prop} (X : zCx p rmX9_look s m args c cells slots cX9_look 6 RX9 D cy ad A) (post : Int32 → Mm → Ml → Prop) (hret : zRi p l e rmX9_look s m args below meth c cells slots Q cX9_look D cy ad A .int post) : ∀ (j9 : Nat) (M : Mm) (L : Ml) (v1 : Int32) (v2 : Int32) (v3 : Int32) (v4 : Int32) (H : Heap) (locs : List Loc) (ls : Array Slot), wlX9_look_50 post j9 (M, L, v1, v2, v3, v4) → zWd D cy ad A s H locs M L → lv_has ls 6 [(0, .ref (ad 42)), (1, .int v1), (2, .int v2), (3, .int v3), (4, .int v4)] → W p l e rmX9_look s m args below meth c H locs cells slots Q (F0 m 50 ls []) := by
  have hx := X.1.1; have hb0 := X.1.2.1; have hts := X.1.2.2.2.2
  intro j9
  induction j9 with
  | zero => intro M L v1 v2 v3 v4 H locs ls hw; exact hw.elim
  | succ j9 ih =>
    obtain ⟨K50, hKe⟩ : ∃ K : Mm → Ml → Int32 → Int32 → Int32 → Int32 → Prop, K = fun M L v1 v2 v3 v4 => wlX9_look_50 post j9 (M, L, v1, v2, v3, v4) := ⟨_, rfl⟩
    have hK50 : ∀ (M : Mm) (L : Ml) (v1 : Int32) (v2 : Int32) (v3 : Int32) (v4 : Int32) (H : Heap) (locs : List Loc) (ls : Array Slot), K50 M L v1 v2 v3 v4 → zWd D cy ad A s H locs M L → lv_has ls 6 [(0, .ref (ad 42)), (1, .int v1), (2, .int v2), (3, .int v3), (4, .int v4)] → W p l e rmX9_look s m args below meth c H locs cells slots Q (F0 m 50 ls []) := by intro M L v1 v2 v3 v4 H locs ls hw; rw [hKe] at hw; exact ih M L v1 v2 v3 v4 H locs ls hw
    intro M L v1 v2 v3 v4 H locs ls hw hW hl
    have hw : wpX9_look_50 post K50 M L v1 v2 v3 v4 := by rw [hKe]; exact hw
    clear ih
    unfold wpX9_look_50 at hw
    refine lv_iload hx hb0 dX9_look_50 (lv_at hl 4 rfl) ?_
    refine lv_sipush (v := (256 : Int32)) hx hb0 dX9_look_52 (by decide) ?_
    refine lv_icmp_ge (tgt := 98) hx hb0 dX9_look_55 (by decide) (fun c_55 => ?_) (fun c_55 => ?_)
    · replace hw := hw.1 c_55
      refine lv_iload_n hx hb0 dX9_look_98 rfl (lv_at hl 3 rfl) ?_
      refine lv_if_ne (tgt := 107) hx hb0 dX9_look_99 (by decide) (fun c_99 => ?_) (fun c_99 => ?_)
      · replace hw := hw.1 c_99
        refine lv_iload_n hx hb0 dX9_look_107 rfl (lv_at hl 1 rfl) ?_
        refine lv_if_ne (tgt := 115) hx hb0 dX9_look_108 (by decide) (fun c_108 => ?_) (fun c_108 => ?_)
        · replace hw := hw.1 c_108
          refine lv_iload_n hx hb0 dX9_look_115 rfl (lv_at hl 3 rfl) ?_
          exact mX9_look_116 X post hret M L v3 _ _ ls hw hW (lv_sub hl [] rfl)
        · replace hw := hw.2 c_108
          refine lv_iload_n hx hb0 dX9_look_111 rfl (lv_at hl 2 rfl) ?_
          refine lv_goto (tgt := 116) hx hb0 dX9_look_112 (by decide) ?_
          exact mX9_look_116 X post hret M L v2 _ _ ls hw hW (lv_sub hl [] rfl)
      · replace hw := hw.2 c_99
        refine lv_bipush (v := (-6 : Int32)) hx hb0 dX9_look_102 (by decide) ?_
        refine lv_goto (tgt := 116) hx hb0 dX9_look_104 (by decide) ?_
        exact mX9_look_116 X post hret M L (-6 : Int32) _ _ ls hw hW (lv_sub hl [] rfl)
    · replace hw := hw.2 c_55
      refine lv_aload_n hx hb0 dX9_look_58 rfl (lv_at hl 0 rfl) ?_
      refine lv_iload hx hb0 dX9_look_59 (lv_at hl 4 rfl) ?_
      refine z_Vi X zO_42 zC7 zc_X9_mostLeft zs_X9_mostLeft zl_X9_251 rfl ⟨rfl, rfl⟩ ⟨Nat.le_of_ble_eq_true rfl, Nat.le_of_ble_eq_true rfl⟩ (kX9_mostLeft l D cy ad X.2.2.2.1 v4) hW hw hl.1 rfl rfl (Nat.le_of_ble_eq_true rfl) dX9_look_61 (fun r_61 M_61 L_61 H_61 locs_61 hw hW => ?_)
      refine lv_istore (lv' := [(5, .int r_61), (0, .ref (ad 42)), (1, .int v1), (2, .int v2), (3, .int v3), (4, .int v4)]) hx hb0 dX9_look_64 hl (by decide) rfl (fun ls hl => ?_)
      refine lv_iload hx hb0 dX9_look_66 (lv_at hl 0 rfl) ?_
      refine lv_iload_n hx hb0 dX9_look_68 rfl (lv_at hl 4 rfl) ?_
      refine lv_icmp_ge (tgt := 77) hx hb0 dX9_look_69 (by decide) (fun c_69 => ?_) (fun c_69 => ?_)
      · replace hw := hw.1 c_69
        refine lv_iload_n hx hb0 dX9_look_77 rfl (lv_at hl 3 rfl) ?_
        exact mX9_look_78 X post hret K50 hK50 M_61 L_61 v1 v3 v4 r_61 v2 _ _ ls hw hW (lv_sub hl [1, 2, 4, 5, 0] rfl)
      · replace hw := hw.2 c_69
        refine lv_iload hx hb0 dX9_look_72 (lv_at hl 5 rfl) ?_
        refine lv_goto (tgt := 78) hx hb0 dX9_look_74 (by decide) ?_
        exact mX9_look_78 X post hret K50 hK50 M_61 L_61 v1 v3 v4 r_61 v4 _ _ ls hw hW (lv_sub hl [1, 2, 4, 5, 0] rfl)
set_option maxRecDepth 20000 in
set_option maxHeartbeats 4000000 in
theorem mX9_look_15 {p : Program} {l : Launch} {e : Env} {s : State} {m : MethodId} {args : Array Value} {below : List Frame} {meth : Method} {c : Code} {cells slots : Nat} {Q : State → Prop} {D : va_G} {cy : Nat → ClassId} {ad : Nat → Nat} {A : Nat → Prop} (X : zCx p rmX9_look s m args c cells slots cX9_look 6 RX9 D cy ad A) (post : Int32 → Mm → Ml → Prop) (hret : zRi p l e rmX9_look s m args below meth c cells slots Q cX9_look D cy ad A .int post) : ∀ (j9 : Nat) (M : Mm) (L : Ml) (v1 : Int32) (v2 : Int32) (H : Heap) (locs : List Loc) (ls : Array Slot), wlX9_look_15 post j9 (M, L, v1, v2) → zWd D cy ad A s H locs M L → lv_has ls 6 [(0, .ref (ad 42)), (1, .int v1), (2, .int v2)] → W p l e rmX9_look s m args below meth c H locs cells slots Q (F0 m 15 ls []) := by
  have hx := X.1.1; have hb0 := X.1.2.1; have hts := X.1.2.2.2.2
  intro j9
  induction j9 with
  | zero => intro M L v1 v2 H locs ls hw; exact hw.elim
  | succ j9 ih =>
    obtain ⟨K15, hKe⟩ : ∃ K : Mm → Ml → Int32 → Int32 → Prop, K = fun M L v1 v2 => wlX9_look_15 post j9 (M, L, v1, v2) := ⟨_, rfl⟩
    have hK15 : ∀ (M : Mm) (L : Ml) (v1 : Int32) (v2 : Int32) (H : Heap) (locs : List Loc) (ls : Array Slot), K15 M L v1 v2 → zWd D cy ad A s H locs M L → lv_has ls 6 [(0, .ref (ad 42)), (1, .int v1), (2, .int v2)] → W p l e rmX9_look s m args below meth c H locs cells slots Q (F0 m 15 ls []) := by intro M L v1 v2 H locs ls hw; rw [hKe] at hw; exact ih M L v1 v2 H locs ls hw
    intro M L v1 v2 H locs ls hw hW hl
    have hw : wpX9_look_15 post K15 M L v1 v2 := by rw [hKe]; exact hw
    clear ih
    unfold wpX9_look_15 at hw
    refine lv_iload_n hx hb0 dX9_look_15 rfl (lv_at hl 2 rfl) ?_
    refine lv_sipush (v := (256 : Int32)) hx hb0 dX9_look_16 (by decide) ?_
    refine lv_icmp_ge (tgt := 39) hx hb0 dX9_look_19 (by decide) (fun c_19 => ?_) (fun c_19 => ?_)
    · replace hw := hw.1 c_19
      refine lv_iconst (v := (0 : Int32)) hx hb0 dX9_look_39 (by decide) ?_
      refine lv_istore_n (lv' := [(2, .int (0 : Int32)), (0, .ref (ad 42)), (1, .int v1)]) hx hb0 dX9_look_40 rfl hl (by decide) rfl (fun ls hl => ?_)
      refine lv_aload_n hx hb0 dX9_look_41 rfl (lv_at hl 1 rfl) ?_
      refine lv_iconst (v := (0 : Int32)) hx hb0 dX9_look_42 (by decide) ?_
      refine z_Vi X zO_42 zC7 zc_X9_mostLeft zs_X9_mostLeft zl_X9_251 rfl ⟨rfl, rfl⟩ ⟨Nat.le_of_ble_eq_true rfl, Nat.le_of_ble_eq_true rfl⟩ (kX9_mostLeft l D cy ad X.2.2.2.1 (0 : Int32)) hW hw hl.1 rfl rfl (Nat.le_of_ble_eq_true rfl) dX9_look_43 (fun r_43 M_43 L_43 H_43 locs_43 hw hW => ?_)
      refine lv_istore_n (lv' := [(3, .int r_43), (2, .int (0 : Int32)), (0, .ref (ad 42)), (1, .int v1)]) hx hb0 dX9_look_46 rfl hl (by decide) rfl (fun ls hl => ?_)
      refine lv_iconst (v := (1 : Int32)) hx hb0 dX9_look_47 (by decide) ?_
      refine lv_istore (lv' := [(4, .int (1 : Int32)), (3, .int r_43), (2, .int (0 : Int32)), (0, .ref (ad 42)), (1, .int v1)]) hx hb0 dX9_look_48 hl (by decide) rfl (fun ls hl => ?_)
      obtain ⟨n_50, hw⟩ := hw
      exact mX9_look_50 X post hret n_50 M_43 L_43 v1 (0 : Int32) r_43 (1 : Int32) _ _ ls hw hW (lv_sub hl [3, 4, 2, 1, 0] rfl)
    · replace hw := hw.2 c_19
      refine lv_aload_n hx hb0 dX9_look_22 rfl (lv_at hl 0 rfl) ?_
      refine z_getR (k2 := 61) X hW zC7 zR_42_27 (by decide) rfl zl_X9_65 dX9_look_23 ?_
      refine lv_iload_n hx hb0 dX9_look_26 rfl (lv_at hl 2 rfl) ?_
      refine lv_aload_n hx hb0 dX9_look_27 rfl (lv_at hl 0 rfl) ?_
      refine lv_iload_n hx hb0 dX9_look_28 rfl (lv_at hl 2 rfl) ?_
      refine z_Vi X zO_42 zC7 zc_X9_fits zs_X9_fits zl_X9_248 rfl ⟨rfl, rfl⟩ ⟨Nat.le_of_ble_eq_true rfl, Nat.le_of_ble_eq_true rfl⟩ (kX9_fits l D cy ad X.2.2.2.1 v2) hW hw hl.1 rfl rfl (Nat.le_of_ble_eq_true rfl) dX9_look_29 (fun r_29 M_29 L_29 H_29 locs_29 hw hW => ?_)
      obtain ⟨g_32, hw⟩ := hw
      refine z_zast X hW zI_61 g_32 dX9_look_32 (fun M_32 H_32 locs_32 e_32 hW => ?_)
      replace hw := hw M_32 e_32
      obtain ⟨a_33, e_33⟩ : ∃ y : Int32, y = v2 + (1 : Int32) := ⟨_, rfl⟩
      replace hw := hw a_33 e_33
      refine lv_iinc (v := a_33) (lv' := [(2, .int a_33), (0, .ref (ad 42)), (1, .int v1)]) hx hb0 dX9_look_33 hl (k := 2) rfl (by rw [e_33]; rfl) (by decide) rfl (fun ls hl => ?_)
      refine lv_goto (tgt := 15) hx hb0 dX9_look_36 (by decide) ?_
      exact hK15 M_32 L_29 v1 a_33 _ _ ls hw hW (lv_sub hl [1, 2, 0] rfl)
set_option maxRecDepth 20000 in
set_option maxHeartbeats 4000000 in
theorem mX9_look {p : Program} {l : Launch} {e : Env} {s : State} {m : MethodId} {args : Array Value} {below : List Frame} {meth : Method} {c : Code} {cells slots : Nat} {Q : State → Prop} {D : va_G} {cy : Nat → ClassId} {ad : Nat → Nat} {A : Nat → Prop} (X : zCx p rmX9_look s m args c cells slots cX9_look 6 RX9 D cy ad A) (post : Int32 → Mm → Ml → Prop) (hret : zRi p l e rmX9_look s m args below meth c cells slots Q cX9_look D cy ad A .int post) : ∀ (M : Mm) (L : Ml) (x1 : Int32) (H : Heap) (locs : List Loc) (ls : Array Slot), wpX9_look x1 M L post → zWd D cy ad A s H locs M L → lv_has ls 6 [(0, .ref (ad 42)), (1, .int x1)] → W p l e rmX9_look s m args below meth c H locs cells slots Q (F0 m 0 ls []) := by
  have hx := X.1.1; have hb0 := X.1.2.1; have hts := X.1.2.2.2.2
  intro M L x1 H locs ls hw hW hl
  unfold wpX9_look at hw
  refine lv_iload_n hx hb0 dX9_look_0 rfl (lv_at hl 1 rfl) ?_
  refine lv_i2l hx hb0 dX9_look_1 rfl ?_
  refine lv_lconst (v := (0 : Int64)) hx hb0 dX9_look_2 (by decide) ?_
  refine lv_lconst (v := (1 : Int64)) hx hb0 dX9_look_3 (by decide) ?_
  refine z_Si X zc_X9_in zt_X9_in zl_X9_86 rfl ⟨rfl, rfl⟩ ⟨Nat.le_of_ble_eq_true rfl, Nat.le_of_ble_eq_true rfl⟩ (kX9_in l D cy ad X.2.2.2.1 (x1.toInt64) (0 : Int64) (1 : Int64)) hW hw hl.1 rfl rfl (Nat.le_of_ble_eq_true rfl) dX9_look_4 (fun r_4 M_4 L_4 H_4 locs_4 hw hW => ?_)
  refine lv_if_ne (tgt := 13) hx hb0 dX9_look_7 (by decide) (fun c_7 => ?_) (fun c_7 => ?_)
  · replace hw := hw.1 c_7
    refine lv_iconst (v := (0 : Int32)) hx hb0 dX9_look_13 (by decide) ?_
    refine lv_istore_n (lv' := [(2, .int (0 : Int32)), (0, .ref (ad 42)), (1, .int x1)]) hx hb0 dX9_look_14 rfl hl (by decide) rfl (fun ls hl => ?_)
    obtain ⟨n_15, hw⟩ := hw
    exact mX9_look_15 X post hret n_15 M_4 L_4 x1 (0 : Int32) _ _ ls hw hW (lv_sub hl [1, 2, 0] rfl)
  · replace hw := hw.2 c_7
    refine lv_bipush (v := (-2 : Int32)) hx hb0 dX9_look_10 (by decide) ?_
    exact hret _ ls _ _ (-2 : Int32) M_4 L_4 dX9_look_12 rfl hw hW
theorem kX9_look (l : Launch) (D : va_G) (cy : Nat → ClassId) (ad : Nat → Nat) (hi : zInj ad) (x1 : Int32) : zMi l yX9_look (.code yX9_look cX9_look 6 (some .int) :: zG) rmX9_look D cy ad [.ref (ad 42), .int x1] (wpX9_look x1) :=
  zMi_of (by decide +kernel) (Nat.le_of_ble_eq_true rfl) hi (fun X M L post _ hret ls hl hw hW => mX9_look X post hret M L x1 _ _ ls hw hW hl)
abbrev rmX9_gust : Room := { frames := 0, cells := 0, slots := 0, locals := 0 }
set_option maxRecDepth 20000 in
set_option maxHeartbeats 4000000 in
theorem mX9_gust_33 {p : Program} {l : Launch} {e : Env} {s : State} {m : MethodId} {args : Array Value} {below : List Frame} {meth : Method} {c : Code} {cells slots : Nat} {Q : State → Prop} {D : va_G} {cy : Nat → ClassId} {ad : Nat → Nat} {A : Nat → Prop} (X : zCx p rmX9_gust s m args c cells slots cX9_gust 4 RX9 D cy ad A) (post : Mm → Ml → Prop) (hret : zRv p l e rmX9_gust s m args below meth c cells slots Q cX9_gust D cy ad A post) (K2 : Mm → Ml → Int32 → Int32 → Int32 → Prop) (hK2 : ∀ (M : Mm) (L : Ml) (v1 : Int32) (v2 : Int32) (v3 : Int32) (H : Heap) (locs : List Loc) (ls : Array Slot), K2 M L v1 v2 v3 → zWd D cy ad A s H locs M L → lv_has ls 4 [(0, .ref (ad 42)), (1, .int v1), (2, .int v2), (3, .int v3)] → W p l e rmX9_gust s m args below meth c H locs cells slots Q (F0 m 2 ls [])) : ∀ (M : Mm) (L : Ml) (v1 : Int32) (v2 : Int32) (v3 : Int32) (s0 : Int64) (s1 : Int32) (H : Heap) (locs : List Loc) (ls : Array Slot), wpX9_gust_33 post K2 M L v1 v2 v3 s0 s1 → zWd D cy ad A s H locs M L → lv_has ls 4 [(0, .ref (ad 42)), (1, .int v1), (2, .int v2), (3, .int v3)] → W p l e rmX9_gust s m args below meth c H locs cells slots Q (F0 m 33 ls [.long s0, .int s1, .ref (ad 63)]) := by
  have hx := X.1.1; have hb0 := X.1.2.1; have hts := X.1.2.2.2.2
  intro M L v1 v2 v3 s0 s1 H locs ls hw hW hl
  unfold wpX9_gust_33 at hw
  obtain ⟨g_33, hw⟩ := hw
  refine z_last X hW zI_63 g_33 dX9_gust_33 (fun L_33 H_33 locs_33 e_33 hW => ?_)
  replace hw := hw L_33 e_33
  obtain ⟨a_34, e_34⟩ : ∃ y : Int32, y = v3 + (1 : Int32) := ⟨_, rfl⟩
  replace hw := hw a_34 e_34
  refine lv_iinc (v := a_34) (lv' := [(3, .int a_34), (0, .ref (ad 42)), (1, .int v1), (2, .int v2)]) hx hb0 dX9_gust_34 hl (k := 3) rfl (by rw [e_34]; rfl) (by decide) rfl (fun ls hl => ?_)
  refine lv_goto (tgt := 2) hx hb0 dX9_gust_37 (by decide) ?_
  exact hK2 M L_33 v1 v2 a_34 _ _ ls hw hW (lv_sub hl [1, 2, 3, 0] rfl)
set_option maxRecDepth 20000 in
set_option maxHeartbeats 4000000 in
theorem mX9_gust_64 {p : Program} {l : Launch} {e : Env} {s : State} {m : MethodId} {args : Array Value} {below : List Frame} {meth : Method} {c : Code} {cells slots : Nat} {Q : State → Prop} {D : va_G} {cy : Nat → ClassId} {ad : Nat → Nat} {A : Nat → Prop} (X : zCx p rmX9_gust s m args c cells slots cX9_gust 4 RX9 D cy ad A) (post : Mm → Ml → Prop) (hret : zRv p l e rmX9_gust s m args below meth c cells slots Q cX9_gust D cy ad A post) (K42 : Mm → Ml → Int32 → Int32 → Int32 → Prop) (hK42 : ∀ (M : Mm) (L : Ml) (v1 : Int32) (v2 : Int32) (v3 : Int32) (H : Heap) (locs : List Loc) (ls : Array Slot), K42 M L v1 v2 v3 → zWd D cy ad A s H locs M L → lv_has ls 4 [(0, .ref (ad 42)), (1, .int v1), (2, .int v2), (3, .int v3)] → W p l e rmX9_gust s m args below meth c H locs cells slots Q (F0 m 42 ls [])) : ∀ (M : Mm) (L : Ml) (v1 : Int32) (v2 : Int32) (v3 : Int32) (s0 : Int32) (H : Heap) (locs : List Loc) (ls : Array Slot), wpX9_gust_64 post K42 M L v1 v2 v3 s0 → zWd D cy ad A s H locs M L → lv_has ls 4 [(0, .ref (ad 42)), (1, .int v1), (2, .int v2), (3, .int v3)] → W p l e rmX9_gust s m args below meth c H locs cells slots Q (F0 m 64 ls [.int s0, .ref (ad 63)]) := by
  have hx := X.1.1; have hb0 := X.1.2.1; have hts := X.1.2.2.2.2
  intro M L v1 v2 v3 s0 H locs ls hw hW hl
  unfold wpX9_gust_64 at hw
  refine lv_dup2_11 hx hb0 dX9_gust_64 rfl rfl ?_
  obtain ⟨g_65, hw⟩ := hw
  refine z_lald X hW zI_63 g_65 dX9_gust_65 ?_
  refine lv_iload_n hx hb0 dX9_gust_66 rfl (lv_at hl 1 rfl) ?_
  refine lv_i2l hx hb0 dX9_gust_67 rfl ?_
  refine lv_aload_n hx hb0 dX9_gust_68 rfl (lv_at hl 0 rfl) ?_
  refine z_getR (k2 := 62) X hW zC7 zR_42_28 (by decide) rfl zl_X9_69 dX9_gust_69 ?_
  refine lv_iload_n hx hb0 dX9_gust_72 rfl (lv_at hl 3 rfl) ?_
  obtain ⟨g_73, hw⟩ := hw
  refine z_lald X hW zI_62 g_73 dX9_gust_73 ?_
  refine lv_lmul hx hb0 dX9_gust_74 ?_
  refine lv_ladd hx hb0 dX9_gust_75 ?_
  obtain ⟨g_76, hw⟩ := hw
  refine z_last X hW zI_63 g_76 dX9_gust_76 (fun L_76 H_76 locs_76 e_76 hW => ?_)
  replace hw := hw L_76 e_76
  refine lv_aload_n hx hb0 dX9_gust_77 rfl (lv_at hl 0 rfl) ?_
  refine z_getR (k2 := 63) X hW zC7 zR_42_29 (by decide) rfl zl_X9_72 dX9_gust_78 ?_
  refine lv_iload_n hx hb0 dX9_gust_81 rfl (lv_at hl 3 rfl) ?_
  refine lv_iconst (v := (1 : Int32)) hx hb0 dX9_gust_82 (by decide) ?_
  refine lv_iadd hx hb0 dX9_gust_83 ?_
  refine lv_dup2_11 hx hb0 dX9_gust_84 rfl rfl ?_
  obtain ⟨g_85, hw⟩ := hw
  refine z_lald X hW zI_63 g_85 dX9_gust_85 ?_
  refine lv_iload_n hx hb0 dX9_gust_86 rfl (lv_at hl 2 rfl) ?_
  refine lv_i2l hx hb0 dX9_gust_87 rfl ?_
  refine lv_aload_n hx hb0 dX9_gust_88 rfl (lv_at hl 0 rfl) ?_
  refine z_getR (k2 := 62) X hW zC7 zR_42_28 (by decide) rfl zl_X9_69 dX9_gust_89 ?_
  refine lv_iload_n hx hb0 dX9_gust_92 rfl (lv_at hl 3 rfl) ?_
  obtain ⟨g_93, hw⟩ := hw
  refine z_lald X hW zI_62 g_93 dX9_gust_93 ?_
  refine lv_lmul hx hb0 dX9_gust_94 ?_
  refine lv_ladd hx hb0 dX9_gust_95 ?_
  obtain ⟨g_96, hw⟩ := hw
  refine z_last X hW zI_63 g_96 dX9_gust_96 (fun L_96 H_96 locs_96 e_96 hW => ?_)
  replace hw := hw L_96 e_96
  refine lv_aload_n hx hb0 dX9_gust_97 rfl (lv_at hl 0 rfl) ?_
  refine z_getR (k2 := 63) X hW zC7 zR_42_29 (by decide) rfl zl_X9_72 dX9_gust_98 ?_
  refine lv_iload_n hx hb0 dX9_gust_101 rfl (lv_at hl 3 rfl) ?_
  refine lv_dup2_11 hx hb0 dX9_gust_102 rfl rfl ?_
  obtain ⟨g_103, hw⟩ := hw
  refine z_lald X hW zI_63 g_103 dX9_gust_103 ?_
  refine lv_ldc2 (v := (10 : Int64)) hx hb0 X.1.2.2.2.1 (hts _ zk_X9_216) dX9_gust_104 ?_
  refine lv_iload_n hx hb0 dX9_gust_107 rfl (lv_at hl 1 rfl) ?_
  refine lv_i2l hx hb0 dX9_gust_108 rfl ?_
  refine lv_lsub hx hb0 dX9_gust_109 ?_
  refine lv_iload_n hx hb0 dX9_gust_110 rfl (lv_at hl 2 rfl) ?_
  refine lv_i2l hx hb0 dX9_gust_111 rfl ?_
  refine lv_lsub hx hb0 dX9_gust_112 ?_
  refine lv_aload_n hx hb0 dX9_gust_113 rfl (lv_at hl 0 rfl) ?_
  refine z_getR (k2 := 62) X hW zC7 zR_42_28 (by decide) rfl zl_X9_69 dX9_gust_114 ?_
  refine lv_iload_n hx hb0 dX9_gust_117 rfl (lv_at hl 3 rfl) ?_
  obtain ⟨g_118, hw⟩ := hw
  refine z_lald X hW zI_62 g_118 dX9_gust_118 ?_
  refine lv_lmul hx hb0 dX9_gust_119 ?_
  refine lv_ladd hx hb0 dX9_gust_120 ?_
  obtain ⟨g_121, hw⟩ := hw
  refine z_last X hW zI_63 g_121 dX9_gust_121 (fun L_121 H_121 locs_121 e_121 hW => ?_)
  replace hw := hw L_121 e_121
  obtain ⟨a_122, e_122⟩ : ∃ y : Int32, y = v3 + (1 : Int32) := ⟨_, rfl⟩
  replace hw := hw a_122 e_122
  refine lv_iinc (v := a_122) (lv' := [(3, .int a_122), (0, .ref (ad 42)), (1, .int v1), (2, .int v2)]) hx hb0 dX9_gust_122 hl (k := 3) rfl (by rw [e_122]; rfl) (by decide) rfl (fun ls hl => ?_)
  refine lv_goto (tgt := 42) hx hb0 dX9_gust_125 (by decide) ?_
  exact hK42 M L_121 v1 v2 a_122 _ _ ls hw hW (lv_sub hl [1, 2, 3, 0] rfl)
set_option maxRecDepth 20000 in
set_option maxHeartbeats 4000000 in
theorem mX9_gust_130 {p : Program} {l : Launch} {e : Env} {s : State} {m : MethodId} {args : Array Value} {below : List Frame} {meth : Method} {c : Code} {cells slots : Nat} {Q : State → Prop} {D : va_G} {cy : Nat → ClassId} {ad : Nat → Nat} {A : Nat → Prop} (X : zCx p rmX9_gust s m args c cells slots cX9_gust 4 RX9 D cy ad A) (post : Mm → Ml → Prop) (hret : zRv p l e rmX9_gust s m args below meth c cells slots Q cX9_gust D cy ad A post) : ∀ (j9 : Nat) (M : Mm) (L : Ml) (v3 : Int32) (H : Heap) (locs : List Loc) (ls : Array Slot), wlX9_gust_130 post j9 (M, L, v3) → zWd D cy ad A s H locs M L → lv_has ls 4 [(0, .ref (ad 42)), (3, .int v3)] → W p l e rmX9_gust s m args below meth c H locs cells slots Q (F0 m 130 ls []) := by
  have hx := X.1.1; have hb0 := X.1.2.1; have hts := X.1.2.2.2.2
  intro j9
  induction j9 with
  | zero => intro M L v3 H locs ls hw; exact hw.elim
  | succ j9 ih =>
    obtain ⟨K130, hKe⟩ : ∃ K : Mm → Ml → Int32 → Prop, K = fun M L v3 => wlX9_gust_130 post j9 (M, L, v3) := ⟨_, rfl⟩
    have hK130 : ∀ (M : Mm) (L : Ml) (v3 : Int32) (H : Heap) (locs : List Loc) (ls : Array Slot), K130 M L v3 → zWd D cy ad A s H locs M L → lv_has ls 4 [(0, .ref (ad 42)), (3, .int v3)] → W p l e rmX9_gust s m args below meth c H locs cells slots Q (F0 m 130 ls []) := by intro M L v3 H locs ls hw; rw [hKe] at hw; exact ih M L v3 H locs ls hw
    intro M L v3 H locs ls hw hW hl
    have hw : wpX9_gust_130 post K130 M L v3 := by rw [hKe]; exact hw
    clear ih
    unfold wpX9_gust_130 at hw
    refine lv_iload_n hx hb0 dX9_gust_130 rfl (lv_at hl 1 rfl) ?_
    refine lv_bipush (v := (16 : Int32)) hx hb0 dX9_gust_131 (by decide) ?_
    refine lv_icmp_gt (tgt := 154) hx hb0 dX9_gust_133 (by decide) (fun c_133 => ?_) (fun c_133 => ?_)
    · replace hw := hw.1 c_133
      exact hret _ ls _ _ M L dX9_gust_154 hw hW
    · replace hw := hw.2 c_133
      refine lv_aload_n hx hb0 dX9_gust_136 rfl (lv_at hl 0 rfl) ?_
      refine z_getR (k2 := 62) X hW zC7 zR_42_28 (by decide) rfl zl_X9_69 dX9_gust_137 ?_
      refine lv_iload_n hx hb0 dX9_gust_140 rfl (lv_at hl 1 rfl) ?_
      refine lv_aload_n hx hb0 dX9_gust_141 rfl (lv_at hl 0 rfl) ?_
      refine z_getR (k2 := 63) X hW zC7 zR_42_29 (by decide) rfl zl_X9_72 dX9_gust_142 ?_
      refine lv_iload_n hx hb0 dX9_gust_145 rfl (lv_at hl 1 rfl) ?_
      obtain ⟨g_146, hw⟩ := hw
      refine z_lald X hW zI_63 g_146 dX9_gust_146 ?_
      obtain ⟨g_147, hw⟩ := hw
      refine z_last X hW zI_62 g_147 dX9_gust_147 (fun L_147 H_147 locs_147 e_147 hW => ?_)
      replace hw := hw L_147 e_147
      obtain ⟨a_148, e_148⟩ : ∃ y : Int32, y = v3 + (1 : Int32) := ⟨_, rfl⟩
      replace hw := hw a_148 e_148
      refine lv_iinc (v := a_148) (lv' := [(3, .int a_148), (0, .ref (ad 42))]) hx hb0 dX9_gust_148 hl (k := 1) rfl (by rw [e_148]; rfl) (by decide) rfl (fun ls hl => ?_)
      refine lv_goto (tgt := 130) hx hb0 dX9_gust_151 (by decide) ?_
      exact hK130 M L_147 a_148 _ _ ls hw hW (lv_sub hl [1, 0] rfl)
set_option maxRecDepth 20000 in
set_option maxHeartbeats 4000000 in
theorem mX9_gust_42 {p : Program} {l : Launch} {e : Env} {s : State} {m : MethodId} {args : Array Value} {below : List Frame} {meth : Method} {c : Code} {cells slots : Nat} {Q : State → Prop} {D : va_G} {cy : Nat → ClassId} {ad : Nat → Nat} {A : Nat → Prop} (X : zCx p rmX9_gust s m args c cells slots cX9_gust 4 RX9 D cy ad A) (post : Mm → Ml → Prop) (hret : zRv p l e rmX9_gust s m args below meth c cells slots Q cX9_gust D cy ad A post) : ∀ (j9 : Nat) (M : Mm) (L : Ml) (v1 : Int32) (v2 : Int32) (v3 : Int32) (H : Heap) (locs : List Loc) (ls : Array Slot), wlX9_gust_42 post j9 (M, L, v1, v2, v3) → zWd D cy ad A s H locs M L → lv_has ls 4 [(0, .ref (ad 42)), (1, .int v1), (2, .int v2), (3, .int v3)] → W p l e rmX9_gust s m args below meth c H locs cells slots Q (F0 m 42 ls []) := by
  have hx := X.1.1; have hb0 := X.1.2.1; have hts := X.1.2.2.2.2
  intro j9
  induction j9 with
  | zero => intro M L v1 v2 v3 H locs ls hw; exact hw.elim
  | succ j9 ih =>
    obtain ⟨K42, hKe⟩ : ∃ K : Mm → Ml → Int32 → Int32 → Int32 → Prop, K = fun M L v1 v2 v3 => wlX9_gust_42 post j9 (M, L, v1, v2, v3) := ⟨_, rfl⟩
    have hK42 : ∀ (M : Mm) (L : Ml) (v1 : Int32) (v2 : Int32) (v3 : Int32) (H : Heap) (locs : List Loc) (ls : Array Slot), K42 M L v1 v2 v3 → zWd D cy ad A s H locs M L → lv_has ls 4 [(0, .ref (ad 42)), (1, .int v1), (2, .int v2), (3, .int v3)] → W p l e rmX9_gust s m args below meth c H locs cells slots Q (F0 m 42 ls []) := by intro M L v1 v2 v3 H locs ls hw; rw [hKe] at hw; exact ih M L v1 v2 v3 H locs ls hw
    intro M L v1 v2 v3 H locs ls hw hW hl
    have hw : wpX9_gust_42 post K42 M L v1 v2 v3 := by rw [hKe]; exact hw
    clear ih
    unfold wpX9_gust_42 at hw
    refine lv_iload_n hx hb0 dX9_gust_42 rfl (lv_at hl 3 rfl) ?_
    refine lv_bipush (v := (16 : Int32)) hx hb0 dX9_gust_43 (by decide) ?_
    refine lv_icmp_ge (tgt := 128) hx hb0 dX9_gust_45 (by decide) (fun c_45 => ?_) (fun c_45 => ?_)
    · replace hw := hw.1 c_45
      refine lv_iconst (v := (0 : Int32)) hx hb0 dX9_gust_128 (by decide) ?_
      refine lv_istore_n (lv' := [(3, .int (0 : Int32)), (0, .ref (ad 42)), (1, .int v1), (2, .int v2)]) hx hb0 dX9_gust_129 rfl hl (by decide) rfl (fun ls hl => ?_)
      obtain ⟨n_130, hw⟩ := hw
      exact mX9_gust_130 X post hret n_130 M L (0 : Int32) _ _ ls hw hW (lv_sub hl [1, 0] rfl)
    · replace hw := hw.2 c_45
      refine lv_aload_n hx hb0 dX9_gust_48 rfl (lv_at hl 0 rfl) ?_
      refine z_getR (k2 := 63) X hW zC7 zR_42_29 (by decide) rfl zl_X9_72 dX9_gust_49 ?_
      refine lv_iload_n hx hb0 dX9_gust_52 rfl (lv_at hl 3 rfl) ?_
      refine lv_if_ne (tgt := 61) hx hb0 dX9_gust_53 (by decide) (fun c_53 => ?_) (fun c_53 => ?_)
      · replace hw := hw.1 c_53
        refine lv_iload_n hx hb0 dX9_gust_61 rfl (lv_at hl 3 rfl) ?_
        refine lv_iconst (v := (1 : Int32)) hx hb0 dX9_gust_62 (by decide) ?_
        refine lv_isub hx hb0 dX9_gust_63 ?_
        exact mX9_gust_64 X post hret K42 hK42 M L v1 v2 v3 (v3 - (1 : Int32)) _ _ ls hw hW (lv_sub hl [0, 1, 2, 3] rfl)
      · replace hw := hw.2 c_53
        refine lv_bipush (v := (16 : Int32)) hx hb0 dX9_gust_56 (by decide) ?_
        refine lv_goto (tgt := 64) hx hb0 dX9_gust_58 (by decide) ?_
        exact mX9_gust_64 X post hret K42 hK42 M L v1 v2 v3 (16 : Int32) _ _ ls hw hW (lv_sub hl [0, 1, 2, 3] rfl)
set_option maxRecDepth 20000 in
set_option maxHeartbeats 4000000 in
theorem mX9_gust_2 {p : Program} {l : Launch} {e : Env} {s : State} {m : MethodId} {args : Array Value} {below : List Frame} {meth : Method} {c : Code} {cells slots : Nat} {Q : State → Prop} {D : va_G} {cy : Nat → ClassId} {ad : Nat → Nat} {A : Nat → Prop} (X : zCx p rmX9_gust s m args c cells slots cX9_gust 4 RX9 D cy ad A) (post : Mm → Ml → Prop) (hret : zRv p l e rmX9_gust s m args below meth c cells slots Q cX9_gust D cy ad A post) : ∀ (j9 : Nat) (M : Mm) (L : Ml) (v1 : Int32) (v2 : Int32) (v3 : Int32) (H : Heap) (locs : List Loc) (ls : Array Slot), wlX9_gust_2 post j9 (M, L, v1, v2, v3) → zWd D cy ad A s H locs M L → lv_has ls 4 [(0, .ref (ad 42)), (1, .int v1), (2, .int v2), (3, .int v3)] → W p l e rmX9_gust s m args below meth c H locs cells slots Q (F0 m 2 ls []) := by
  have hx := X.1.1; have hb0 := X.1.2.1; have hts := X.1.2.2.2.2
  intro j9
  induction j9 with
  | zero => intro M L v1 v2 v3 H locs ls hw; exact hw.elim
  | succ j9 ih =>
    obtain ⟨K2, hKe⟩ : ∃ K : Mm → Ml → Int32 → Int32 → Int32 → Prop, K = fun M L v1 v2 v3 => wlX9_gust_2 post j9 (M, L, v1, v2, v3) := ⟨_, rfl⟩
    have hK2 : ∀ (M : Mm) (L : Ml) (v1 : Int32) (v2 : Int32) (v3 : Int32) (H : Heap) (locs : List Loc) (ls : Array Slot), K2 M L v1 v2 v3 → zWd D cy ad A s H locs M L → lv_has ls 4 [(0, .ref (ad 42)), (1, .int v1), (2, .int v2), (3, .int v3)] → W p l e rmX9_gust s m args below meth c H locs cells slots Q (F0 m 2 ls []) := by intro M L v1 v2 v3 H locs ls hw; rw [hKe] at hw; exact ih M L v1 v2 v3 H locs ls hw
    intro M L v1 v2 v3 H locs ls hw hW hl
    have hw : wpX9_gust_2 post K2 M L v1 v2 v3 := by rw [hKe]; exact hw
    clear ih
    unfold wpX9_gust_2 at hw
    refine lv_iload_n hx hb0 dX9_gust_2 rfl (lv_at hl 3 rfl) ?_
    refine lv_bipush (v := (16 : Int32)) hx hb0 dX9_gust_3 (by decide) ?_
    refine lv_icmp_gt (tgt := 40) hx hb0 dX9_gust_5 (by decide) (fun c_5 => ?_) (fun c_5 => ?_)
    · replace hw := hw.1 c_5
      refine lv_iconst (v := (0 : Int32)) hx hb0 dX9_gust_40 (by decide) ?_
      refine lv_istore_n (lv' := [(3, .int (0 : Int32)), (0, .ref (ad 42)), (1, .int v1), (2, .int v2)]) hx hb0 dX9_gust_41 rfl hl (by decide) rfl (fun ls hl => ?_)
      obtain ⟨n_42, hw⟩ := hw
      exact mX9_gust_42 X post hret n_42 M L v1 v2 (0 : Int32) _ _ ls hw hW (lv_sub hl [1, 2, 3, 0] rfl)
    · replace hw := hw.2 c_5
      refine lv_aload_n hx hb0 dX9_gust_8 rfl (lv_at hl 0 rfl) ?_
      refine z_getR (k2 := 63) X hW zC7 zR_42_29 (by decide) rfl zl_X9_72 dX9_gust_9 ?_
      refine lv_iload_n hx hb0 dX9_gust_12 rfl (lv_at hl 3 rfl) ?_
      refine lv_iload_n hx hb0 dX9_gust_13 rfl (lv_at hl 3 rfl) ?_
      refine lv_bipush (v := (16 : Int32)) hx hb0 dX9_gust_14 (by decide) ?_
      refine lv_icmp_ne (tgt := 32) hx hb0 dX9_gust_16 (by decide) (fun c_16 => ?_) (fun c_16 => ?_)
      · replace hw := hw.1 c_16
        refine lv_lconst (v := (0 : Int64)) hx hb0 dX9_gust_32 (by decide) ?_
        exact mX9_gust_33 X post hret K2 hK2 M L v1 v2 v3 (0 : Int64) v3 _ _ ls hw hW (lv_sub hl [0, 1, 2, 3] rfl)
      · replace hw := hw.2 c_16
        refine lv_ldc2 (v := (10 : Int64)) hx hb0 X.1.2.2.2.1 (hts _ zk_X9_216) dX9_gust_19 ?_
        refine lv_aload_n hx hb0 dX9_gust_22 rfl (lv_at hl 0 rfl) ?_
        refine z_getR (k2 := 62) X hW zC7 zR_42_28 (by decide) rfl zl_X9_69 dX9_gust_23 ?_
        refine lv_iload_n hx hb0 dX9_gust_26 rfl (lv_at hl 3 rfl) ?_
        obtain ⟨g_27, hw⟩ := hw
        refine z_lald X hW zI_62 g_27 dX9_gust_27 ?_
        refine lv_lmul hx hb0 dX9_gust_28 ?_
        refine lv_goto (tgt := 33) hx hb0 dX9_gust_29 (by decide) ?_
        exact mX9_gust_33 X post hret K2 hK2 M L v1 v2 v3 ((10 : Int64) * (L 62 v3.toNatClampNeg)) v3 _ _ ls hw hW (lv_sub hl [0, 1, 2, 3] rfl)
set_option maxRecDepth 20000 in
set_option maxHeartbeats 4000000 in
theorem mX9_gust {p : Program} {l : Launch} {e : Env} {s : State} {m : MethodId} {args : Array Value} {below : List Frame} {meth : Method} {c : Code} {cells slots : Nat} {Q : State → Prop} {D : va_G} {cy : Nat → ClassId} {ad : Nat → Nat} {A : Nat → Prop} (X : zCx p rmX9_gust s m args c cells slots cX9_gust 4 RX9 D cy ad A) (post : Mm → Ml → Prop) (hret : zRv p l e rmX9_gust s m args below meth c cells slots Q cX9_gust D cy ad A post) : ∀ (M : Mm) (L : Ml) (x1 : Int32) (x2 : Int32) (H : Heap) (locs : List Loc) (ls : Array Slot), wpX9_gust x1 x2 M L post → zWd D cy ad A s H locs M L → lv_has ls 4 [(0, .ref (ad 42)), (1, .int x1), (2, .int x2)] → W p l e rmX9_gust s m args below meth c H locs cells slots Q (F0 m 0 ls []) := by
  have hx := X.1.1; have hb0 := X.1.2.1; have hts := X.1.2.2.2.2
  intro M L x1 x2 H locs ls hw hW hl
  unfold wpX9_gust at hw
  refine lv_iconst (v := (0 : Int32)) hx hb0 dX9_gust_0 (by decide) ?_
  refine lv_istore_n (lv' := [(3, .int (0 : Int32)), (0, .ref (ad 42)), (1, .int x1), (2, .int x2)]) hx hb0 dX9_gust_1 rfl hl (by decide) rfl (fun ls hl => ?_)
  obtain ⟨n_2, hw⟩ := hw
  exact mX9_gust_2 X post hret n_2 M L x1 x2 (0 : Int32) _ _ ls hw hW (lv_sub hl [1, 2, 3, 0] rfl)
theorem kX9_gust (l : Launch) (D : va_G) (cy : Nat → ClassId) (ad : Nat → Nat) (hi : zInj ad) (x1 : Int32) (x2 : Int32) : zMv l yX9_gust (.code yX9_gust cX9_gust 4 none :: zG) rmX9_gust D cy ad [.ref (ad 42), .int x1, .int x2] (wpX9_gust x1 x2) :=
  zMv_of (by decide +kernel) (Nat.le_of_ble_eq_true rfl) hi (fun X M L post _ hret ls hl hw hW => mX9_gust X post hret M L x1 x2 _ _ ls hw hW hl)
abbrev rmX9_lowest : Room := { frames := 0, cells := 0, slots := 0, locals := 0 }
set_option maxRecDepth 20000 in
set_option maxHeartbeats 4000000 in
theorem mX9_lowest_47 {p : Program} {l : Launch} {e : Env} {s : State} {m : MethodId} {args : Array Value} {below : List Frame} {meth : Method} {c : Code} {cells slots : Nat} {Q : State → Prop} {D : va_G} {cy : Nat → ClassId} {ad : Nat → Nat} {A : Nat → Prop} (X : zCx p rmX9_lowest s m args c cells slots cX9_lowest 11 RX9 D cy ad A) (post : Int64 → Mm → Ml → Prop) (hret : zRl p l e rmX9_lowest s m args below meth c cells slots Q cX9_lowest D cy ad A post) : ∀ (M : Mm) (L : Ml) (s0 : Int64) (H : Heap) (locs : List Loc) (ls : Array Slot), wpX9_lowest_47 post M L s0 → zWd D cy ad A s H locs M L → lv_has ls 11 [] → W p l e rmX9_lowest s m args below meth c H locs cells slots Q (F0 m 47 ls [.long s0]) := by
  have hx := X.1.1; have hb0 := X.1.2.1; have hts := X.1.2.2.2.2
  intro M L s0 H locs ls hw hW hl
  unfold wpX9_lowest_47 at hw
  exact hret _ ls _ _ s0 M L dX9_lowest_47 hw hW
set_option maxRecDepth 20000 in
set_option maxHeartbeats 4000000 in
theorem mX9_lowest_6 {p : Program} {l : Launch} {e : Env} {s : State} {m : MethodId} {args : Array Value} {below : List Frame} {meth : Method} {c : Code} {cells slots : Nat} {Q : State → Prop} {D : va_G} {cy : Nat → ClassId} {ad : Nat → Nat} {A : Nat → Prop} (X : zCx p rmX9_lowest s m args c cells slots cX9_lowest 11 RX9 D cy ad A) (post : Int64 → Mm → Ml → Prop) (hret : zRl p l e rmX9_lowest s m args below meth c cells slots Q cX9_lowest D cy ad A post) : ∀ (j9 : Nat) (M : Mm) (L : Ml) (v0 : Int64) (v2 : Int64) (v4 : Int32) (v5 : Int64) (v7 : Int64) (H : Heap) (locs : List Loc) (ls : Array Slot), wlX9_lowest_6 post j9 (M, L, v0, v2, v4, v5, v7) → zWd D cy ad A s H locs M L → lv_has ls 11 [(0, .long v0), (2, .long v2), (4, .int v4), (5, .long v5), (7, .long v7)] → W p l e rmX9_lowest s m args below meth c H locs cells slots Q (F0 m 6 ls []) := by
  have hx := X.1.1; have hb0 := X.1.2.1; have hts := X.1.2.2.2.2
  intro j9
  induction j9 with
  | zero => intro M L v0 v2 v4 v5 v7 H locs ls hw; exact hw.elim
  | succ j9 ih =>
    obtain ⟨K6, hKe⟩ : ∃ K : Mm → Ml → Int64 → Int64 → Int32 → Int64 → Int64 → Prop, K = fun M L v0 v2 v4 v5 v7 => wlX9_lowest_6 post j9 (M, L, v0, v2, v4, v5, v7) := ⟨_, rfl⟩
    have hK6 : ∀ (M : Mm) (L : Ml) (v0 : Int64) (v2 : Int64) (v4 : Int32) (v5 : Int64) (v7 : Int64) (H : Heap) (locs : List Loc) (ls : Array Slot), K6 M L v0 v2 v4 v5 v7 → zWd D cy ad A s H locs M L → lv_has ls 11 [(0, .long v0), (2, .long v2), (4, .int v4), (5, .long v5), (7, .long v7)] → W p l e rmX9_lowest s m args below meth c H locs cells slots Q (F0 m 6 ls []) := by intro M L v0 v2 v4 v5 v7 H locs ls hw; rw [hKe] at hw; exact ih M L v0 v2 v4 v5 v7 H locs ls hw
    intro M L v0 v2 v4 v5 v7 H locs ls hw hW hl
    have hw : wpX9_lowest_6 post K6 M L v0 v2 v4 v5 v7 := by rw [hKe]; exact hw
    clear ih
    unfold wpX9_lowest_6 at hw
    refine lv_lload hx hb0 dX9_lowest_6 (lv_at hl 4 rfl) ?_
    refine lv_lconst (v := (0 : Int64)) hx hb0 dX9_lowest_8 (by decide) ?_
    refine W.lcmp hx hb0 dX9_lowest_9 ?_
    refine lv_if_eq (tgt := 31) hx hb0 dX9_lowest_10 (by decide) (fun c_10 => ?_) (fun c_10 => ?_)
    · replace hw := hw.1 c_10
      refine lv_iload hx hb0 dX9_lowest_31 (lv_at hl 2 rfl) ?_
      refine lv_if_ne (tgt := 43) hx hb0 dX9_lowest_33 (by decide) (fun c_33 => ?_) (fun c_33 => ?_)
      · replace hw := hw.1 c_33
        refine lv_lload_n hx hb0 dX9_lowest_43 rfl (lv_at hl 1 rfl) ?_
        refine lv_lload hx hb0 dX9_lowest_44 (lv_at hl 3 rfl) ?_
        obtain ⟨g_46, hw⟩ := hw
        refine lv_ldiv hx hb0 dX9_lowest_46 g_46 ?_
        exact mX9_lowest_47 X post hret M L (v2 / v5) _ _ ls hw hW (lv_sub hl [] rfl)
      · replace hw := hw.2 c_33
        refine lv_lload_n hx hb0 dX9_lowest_36 rfl (lv_at hl 0 rfl) ?_
        refine lv_lload hx hb0 dX9_lowest_37 (lv_at hl 3 rfl) ?_
        obtain ⟨g_39, hw⟩ := hw
        refine lv_ldiv hx hb0 dX9_lowest_39 g_39 ?_
        refine lv_goto (tgt := 47) hx hb0 dX9_lowest_40 (by decide) ?_
        exact mX9_lowest_47 X post hret M L (v0 / v5) _ _ ls hw hW (lv_sub hl [] rfl)
    · replace hw := hw.2 c_10
      refine lv_lload hx hb0 dX9_lowest_13 (lv_at hl 3 rfl) ?_
      refine lv_lload hx hb0 dX9_lowest_15 (lv_at hl 4 rfl) ?_
      obtain ⟨g_17, hw⟩ := hw
      refine lv_lrem hx hb0 dX9_lowest_17 g_17 ?_
      refine lv_topl (fun a_18 e_18 => ?_)
      replace hw := hw a_18 e_18
      refine lv_lstore (lv' := [(9, .long a_18), (0, .long v0), (2, .long v2), (4, .int v4), (5, .long v5), (7, .long v7)]) hx hb0 dX9_lowest_18 hl (by decide) rfl (fun ls hl => ?_)
      refine lv_lload hx hb0 dX9_lowest_20 (lv_at hl 5 rfl) ?_
      refine lv_lstore (lv' := [(5, .long v7), (9, .long a_18), (0, .long v0), (2, .long v2), (4, .int v4), (7, .long v7)]) hx hb0 dX9_lowest_22 hl (by decide) rfl (fun ls hl => ?_)
      refine lv_lload hx hb0 dX9_lowest_24 (lv_at hl 1 rfl) ?_
      refine lv_lstore (lv' := [(7, .long a_18), (5, .long v7), (9, .long a_18), (0, .long v0), (2, .long v2), (4, .int v4)]) hx hb0 dX9_lowest_26 hl (by decide) rfl (fun ls hl => ?_)
      refine lv_goto (tgt := 6) hx hb0 dX9_lowest_28 (by decide) ?_
      exact hK6 M L v0 v2 v4 v7 a_18 _ _ ls hw hW (lv_sub hl [3, 4, 5, 1, 0] rfl)
set_option maxRecDepth 20000 in
set_option maxHeartbeats 4000000 in
theorem mX9_lowest {p : Program} {l : Launch} {e : Env} {s : State} {m : MethodId} {args : Array Value} {below : List Frame} {meth : Method} {c : Code} {cells slots : Nat} {Q : State → Prop} {D : va_G} {cy : Nat → ClassId} {ad : Nat → Nat} {A : Nat → Prop} (X : zCx p rmX9_lowest s m args c cells slots cX9_lowest 11 RX9 D cy ad A) (post : Int64 → Mm → Ml → Prop) (hret : zRl p l e rmX9_lowest s m args below meth c cells slots Q cX9_lowest D cy ad A post) : ∀ (M : Mm) (L : Ml) (x1 : Int64) (x2 : Int64) (x3 : Int32) (H : Heap) (locs : List Loc) (ls : Array Slot), wpX9_lowest x1 x2 x3 M L post → zWd D cy ad A s H locs M L → lv_has ls 11 [(0, .long x1), (2, .long x2), (4, .int x3)] → W p l e rmX9_lowest s m args below meth c H locs cells slots Q (F0 m 0 ls []) := by
  have hx := X.1.1; have hb0 := X.1.2.1; have hts := X.1.2.2.2.2
  intro M L x1 x2 x3 H locs ls hw hW hl
  unfold wpX9_lowest at hw
  refine lv_lload_n hx hb0 dX9_lowest_0 rfl (lv_at hl 1 rfl) ?_
  refine lv_lstore (lv' := [(5, .long x2), (0, .long x1), (2, .long x2), (4, .int x3)]) hx hb0 dX9_lowest_1 hl (by decide) rfl (fun ls hl => ?_)
  refine lv_lload_n hx hb0 dX9_lowest_3 rfl (lv_at hl 1 rfl) ?_
  refine lv_lstore (lv' := [(7, .long x1), (5, .long x2), (0, .long x1), (2, .long x2), (4, .int x3)]) hx hb0 dX9_lowest_4 hl (by decide) rfl (fun ls hl => ?_)
  obtain ⟨n_6, hw⟩ := hw
  exact mX9_lowest_6 X post hret n_6 M L x1 x2 x3 x2 x1 _ _ ls hw hW (lv_sub hl [2, 3, 4, 1, 0] rfl)
theorem kX9_lowest (l : Launch) (D : va_G) (cy : Nat → ClassId) (ad : Nat → Nat) (hi : zInj ad) (x1 : Int64) (x2 : Int64) (x3 : Int32) : zMl l yX9_lowest (.code yX9_lowest cX9_lowest 11 (some .long) :: zG) rmX9_lowest D cy ad [.long x1, .long x2, .int x3] (wpX9_lowest x1 x2 x3) :=
  zMl_of (by decide +kernel) (Nat.le_of_ble_eq_true rfl) hi (fun X M L post _ hret ls hl hw hW => mX9_lowest X post hret M L x1 x2 x3 _ _ ls hw hW hl)
abbrev rmX9_areGusts : Room := { frames := 1, cells := 0, slots := 0, locals := 25 }
set_option maxRecDepth 20000 in
set_option maxHeartbeats 4000000 in
theorem mX9_areGusts_83 {p : Program} {l : Launch} {e : Env} {s : State} {m : MethodId} {args : Array Value} {below : List Frame} {meth : Method} {c : Code} {cells slots : Nat} {Q : State → Prop} {D : va_G} {cy : Nat → ClassId} {ad : Nat → Nat} {A : Nat → Prop} (X : zCx p rmX9_areGusts s m args c cells slots cX9_areGusts 5 RX9 D cy ad A) (post : Int32 → Mm → Ml → Prop) (hret : zRi p l e rmX9_areGusts s m args below meth c cells slots Q cX9_areGusts D cy ad A .boolean post) : ∀ (M : Mm) (L : Ml) (s0 : Int32) (H : Heap) (locs : List Loc) (ls : Array Slot), wpX9_areGusts_83 post M L s0 → zWd D cy ad A s H locs M L → lv_has ls 5 [] → W p l e rmX9_areGusts s m args below meth c H locs cells slots Q (F0 m 83 ls [.int s0]) := by
  have hx := X.1.1; have hb0 := X.1.2.1; have hts := X.1.2.2.2.2
  intro M L s0 H locs ls hw hW hl
  unfold wpX9_areGusts_83 at hw
  exact hret _ ls _ _ s0 M L dX9_areGusts_83 (z_bool hw.1) hw.2 hW
set_option maxRecDepth 20000 in
set_option maxHeartbeats 4000000 in
theorem mX9_areGusts_82 {p : Program} {l : Launch} {e : Env} {s : State} {m : MethodId} {args : Array Value} {below : List Frame} {meth : Method} {c : Code} {cells slots : Nat} {Q : State → Prop} {D : va_G} {cy : Nat → ClassId} {ad : Nat → Nat} {A : Nat → Prop} (X : zCx p rmX9_areGusts s m args c cells slots cX9_areGusts 5 RX9 D cy ad A) (post : Int32 → Mm → Ml → Prop) (hret : zRi p l e rmX9_areGusts s m args below meth c cells slots Q cX9_areGusts D cy ad A .boolean post) : ∀ (M : Mm) (L : Ml) (H : Heap) (locs : List Loc) (ls : Array Slot), wpX9_areGusts_82 post M L → zWd D cy ad A s H locs M L → lv_has ls 5 [] → W p l e rmX9_areGusts s m args below meth c H locs cells slots Q (F0 m 82 ls []) := by
  have hx := X.1.1; have hb0 := X.1.2.1; have hts := X.1.2.2.2.2
  intro M L H locs ls hw hW hl
  unfold wpX9_areGusts_82 at hw
  refine lv_iconst (v := (0 : Int32)) hx hb0 dX9_areGusts_82 (by decide) ?_
  exact mX9_areGusts_83 X post hret M L (0 : Int32) _ _ ls hw hW (lv_sub hl [] rfl)
set_option maxRecDepth 20000 in
set_option maxHeartbeats 4000000 in
theorem mX9_areGusts {p : Program} {l : Launch} {e : Env} {s : State} {m : MethodId} {args : Array Value} {below : List Frame} {meth : Method} {c : Code} {cells slots : Nat} {Q : State → Prop} {D : va_G} {cy : Nat → ClassId} {ad : Nat → Nat} {A : Nat → Prop} (X : zCx p rmX9_areGusts s m args c cells slots cX9_areGusts 5 RX9 D cy ad A) (post : Int32 → Mm → Ml → Prop) (hret : zRi p l e rmX9_areGusts s m args below meth c cells slots Q cX9_areGusts D cy ad A .boolean post) : ∀ (M : Mm) (L : Ml) (x1 : Int32) (x2 : Int32) (x3 : Int32) (x4 : Int32) (x5 : Int32) (H : Heap) (locs : List Loc) (ls : Array Slot), wpX9_areGusts x1 x2 x3 x4 x5 M L post → zWd D cy ad A s H locs M L → lv_has ls 5 [(0, .int x1), (1, .int x2), (2, .int x3), (3, .int x4), (4, .int x5)] → W p l e rmX9_areGusts s m args below meth c H locs cells slots Q (F0 m 0 ls []) := by
  have hx := X.1.1; have hb0 := X.1.2.1; have hts := X.1.2.2.2.2
  intro M L x1 x2 x3 x4 x5 H locs ls hw hW hl
  unfold wpX9_areGusts at hw
  refine lv_iload_n hx hb0 dX9_areGusts_0 rfl (lv_at hl 0 rfl) ?_
  refine lv_i2l hx hb0 dX9_areGusts_1 rfl ?_
  refine lv_lconst (v := (0 : Int64)) hx hb0 dX9_areGusts_2 (by decide) ?_
  refine lv_ldc2 (v := (15 : Int64)) hx hb0 X.1.2.2.2.1 (hts _ zk_X9_105) dX9_areGusts_3 ?_
  refine z_Si X zc_X9_in zt_X9_in zl_X9_86 rfl ⟨rfl, rfl⟩ ⟨Nat.le_of_ble_eq_true rfl, Nat.le_of_ble_eq_true rfl⟩ (kX9_in l D cy ad X.2.2.2.1 (x1.toInt64) (0 : Int64) (15 : Int64)) hW hw hl.1 rfl rfl (Nat.le_of_ble_eq_true rfl) dX9_areGusts_6 (fun r_6 M_6 L_6 H_6 locs_6 hw hW => ?_)
  refine lv_if_eq (tgt := 82) hx hb0 dX9_areGusts_9 (by decide) (fun c_9 => ?_) (fun c_9 => ?_)
  · replace hw := hw.1 c_9
    exact mX9_areGusts_82 X post hret M_6 L_6 _ _ ls hw hW (lv_sub hl [] rfl)
  · replace hw := hw.2 c_9
    refine lv_iload_n hx hb0 dX9_areGusts_12 rfl (lv_at hl 1 rfl) ?_
    refine lv_i2l hx hb0 dX9_areGusts_13 rfl ?_
    refine lv_lconst (v := (0 : Int64)) hx hb0 dX9_areGusts_14 (by decide) ?_
    refine lv_ldc2 (v := (6 : Int64)) hx hb0 X.1.2.2.2.1 (hts _ zk_X9_254) dX9_areGusts_15 ?_
    refine z_Si X zc_X9_in zt_X9_in zl_X9_86 rfl ⟨rfl, rfl⟩ ⟨Nat.le_of_ble_eq_true rfl, Nat.le_of_ble_eq_true rfl⟩ (kX9_in l D cy ad X.2.2.2.1 (x2.toInt64) (0 : Int64) (6 : Int64)) hW hw hl.1 rfl rfl (Nat.le_of_ble_eq_true rfl) dX9_areGusts_18 (fun r_18 M_18 L_18 H_18 locs_18 hw hW => ?_)
    refine lv_if_eq (tgt := 82) hx hb0 dX9_areGusts_21 (by decide) (fun c_21 => ?_) (fun c_21 => ?_)
    · replace hw := hw.1 c_21
      exact mX9_areGusts_82 X post hret M_18 L_18 _ _ ls hw hW (lv_sub hl [] rfl)
    · replace hw := hw.2 c_21
      refine lv_iload_n hx hb0 dX9_areGusts_24 rfl (lv_at hl 2 rfl) ?_
      refine lv_i2l hx hb0 dX9_areGusts_25 rfl ?_
      refine lv_lconst (v := (0 : Int64)) hx hb0 dX9_areGusts_26 (by decide) ?_
      refine lv_ldc2 (v := (10 : Int64)) hx hb0 X.1.2.2.2.1 (hts _ zk_X9_216) dX9_areGusts_27 ?_
      refine z_Si X zc_X9_in zt_X9_in zl_X9_86 rfl ⟨rfl, rfl⟩ ⟨Nat.le_of_ble_eq_true rfl, Nat.le_of_ble_eq_true rfl⟩ (kX9_in l D cy ad X.2.2.2.1 (x3.toInt64) (0 : Int64) (10 : Int64)) hW hw hl.1 rfl rfl (Nat.le_of_ble_eq_true rfl) dX9_areGusts_30 (fun r_30 M_30 L_30 H_30 locs_30 hw hW => ?_)
      refine lv_if_eq (tgt := 82) hx hb0 dX9_areGusts_33 (by decide) (fun c_33 => ?_) (fun c_33 => ?_)
      · replace hw := hw.1 c_33
        exact mX9_areGusts_82 X post hret M_30 L_30 _ _ ls hw hW (lv_sub hl [] rfl)
      · replace hw := hw.2 c_33
        refine lv_iload_n hx hb0 dX9_areGusts_36 rfl (lv_at hl 3 rfl) ?_
        refine lv_i2l hx hb0 dX9_areGusts_37 rfl ?_
        refine lv_lconst (v := (0 : Int64)) hx hb0 dX9_areGusts_38 (by decide) ?_
        refine lv_ldc2 (v := (10 : Int64)) hx hb0 X.1.2.2.2.1 (hts _ zk_X9_216) dX9_areGusts_39 ?_
        refine z_Si X zc_X9_in zt_X9_in zl_X9_86 rfl ⟨rfl, rfl⟩ ⟨Nat.le_of_ble_eq_true rfl, Nat.le_of_ble_eq_true rfl⟩ (kX9_in l D cy ad X.2.2.2.1 (x4.toInt64) (0 : Int64) (10 : Int64)) hW hw hl.1 rfl rfl (Nat.le_of_ble_eq_true rfl) dX9_areGusts_42 (fun r_42 M_42 L_42 H_42 locs_42 hw hW => ?_)
        refine lv_if_eq (tgt := 82) hx hb0 dX9_areGusts_45 (by decide) (fun c_45 => ?_) (fun c_45 => ?_)
        · replace hw := hw.1 c_45
          exact mX9_areGusts_82 X post hret M_42 L_42 _ _ ls hw hW (lv_sub hl [] rfl)
        · replace hw := hw.2 c_45
          refine lv_iload_n hx hb0 dX9_areGusts_48 rfl (lv_at hl 2 rfl) ?_
          refine lv_i2l hx hb0 dX9_areGusts_49 rfl ?_
          refine lv_iload_n hx hb0 dX9_areGusts_50 rfl (lv_at hl 3 rfl) ?_
          refine lv_i2l hx hb0 dX9_areGusts_51 rfl ?_
          refine lv_ladd hx hb0 dX9_areGusts_52 ?_
          refine lv_lconst (v := (0 : Int64)) hx hb0 dX9_areGusts_53 (by decide) ?_
          refine lv_ldc2 (v := (10 : Int64)) hx hb0 X.1.2.2.2.1 (hts _ zk_X9_216) dX9_areGusts_54 ?_
          refine z_Si X zc_X9_in zt_X9_in zl_X9_86 rfl ⟨rfl, rfl⟩ ⟨Nat.le_of_ble_eq_true rfl, Nat.le_of_ble_eq_true rfl⟩ (kX9_in l D cy ad X.2.2.2.1 ((x3.toInt64) + (x4.toInt64)) (0 : Int64) (10 : Int64)) hW hw hl.1 rfl rfl (Nat.le_of_ble_eq_true rfl) dX9_areGusts_57 (fun r_57 M_57 L_57 H_57 locs_57 hw hW => ?_)
          refine lv_if_eq (tgt := 82) hx hb0 dX9_areGusts_60 (by decide) (fun c_60 => ?_) (fun c_60 => ?_)
          · replace hw := hw.1 c_60
            exact mX9_areGusts_82 X post hret M_57 L_57 _ _ ls hw hW (lv_sub hl [] rfl)
          · replace hw := hw.2 c_60
            refine lv_iload hx hb0 dX9_areGusts_63 (lv_at hl 4 rfl) ?_
            refine lv_i2l hx hb0 dX9_areGusts_65 rfl ?_
            refine lv_ldc2 (v := (-1 : Int64)) hx hb0 X.1.2.2.2.1 (hts _ zk_X9_256) dX9_areGusts_66 ?_
            refine lv_ldc2 (v := (15 : Int64)) hx hb0 X.1.2.2.2.1 (hts _ zk_X9_105) dX9_areGusts_69 ?_
            refine z_Si X zc_X9_in zt_X9_in zl_X9_86 rfl ⟨rfl, rfl⟩ ⟨Nat.le_of_ble_eq_true rfl, Nat.le_of_ble_eq_true rfl⟩ (kX9_in l D cy ad X.2.2.2.1 (x5.toInt64) (-1 : Int64) (15 : Int64)) hW hw hl.1 rfl rfl (Nat.le_of_ble_eq_true rfl) dX9_areGusts_72 (fun r_72 M_72 L_72 H_72 locs_72 hw hW => ?_)
            refine lv_if_eq (tgt := 82) hx hb0 dX9_areGusts_75 (by decide) (fun c_75 => ?_) (fun c_75 => ?_)
            · replace hw := hw.1 c_75
              exact mX9_areGusts_82 X post hret M_72 L_72 _ _ ls hw hW (lv_sub hl [] rfl)
            · replace hw := hw.2 c_75
              refine lv_iconst (v := (1 : Int32)) hx hb0 dX9_areGusts_78 (by decide) ?_
              refine lv_goto (tgt := 83) hx hb0 dX9_areGusts_79 (by decide) ?_
              exact mX9_areGusts_83 X post hret M_72 L_72 (1 : Int32) _ _ ls hw hW (lv_sub hl [] rfl)
theorem kX9_areGusts (l : Launch) (D : va_G) (cy : Nat → ClassId) (ad : Nat → Nat) (hi : zInj ad) (x1 : Int32) (x2 : Int32) (x3 : Int32) (x4 : Int32) (x5 : Int32) : zMi l yX9_areGusts (.code yX9_areGusts cX9_areGusts 5 (some .boolean) :: zG) rmX9_areGusts D cy ad [.int x1, .int x2, .int x3, .int x4, .int x5] (wpX9_areGusts x1 x2 x3 x4 x5) :=
  zMi_of (by decide +kernel) (Nat.le_of_ble_eq_true rfl) hi (fun X M L post _ hret ls hl hw hW => mX9_areGusts X post hret M L x1 x2 x3 x4 x5 _ _ ls hw hW hl)
abbrev rmX9_gusts : Room := { frames := 2, cells := 0, slots := 0, locals := 49 }
set_option maxRecDepth 20000 in
set_option maxHeartbeats 4000000 in
theorem mX9_gusts_24 {p : Program} {l : Launch} {e : Env} {s : State} {m : MethodId} {args : Array Value} {below : List Frame} {meth : Method} {c : Code} {cells slots : Nat} {Q : State → Prop} {D : va_G} {cy : Nat → ClassId} {ad : Nat → Nat} {A : Nat → Prop} (X : zCx p rmX9_gusts s m args c cells slots cX9_gusts 10 RX9 D cy ad A) (post : Int64 → Mm → Ml → Prop) (hret : zRl p l e rmX9_gusts s m args below meth c cells slots Q cX9_gusts D cy ad A post) : ∀ (M : Mm) (L : Ml) (H : Heap) (locs : List Loc) (ls : Array Slot), wpX9_gusts_24 post M L → zWd D cy ad A s H locs M L → lv_has ls 10 [] → W p l e rmX9_gusts s m args below meth c H locs cells slots Q (F0 m 24 ls []) := by
  have hx := X.1.1; have hb0 := X.1.2.1; have hts := X.1.2.2.2.2
  intro M L H locs ls hw hW hl
  unfold wpX9_gusts_24 at hw
  refine lv_ldc2 (v := (-1000000000000000002 : Int64)) hx hb0 X.1.2.2.2.1 (hts _ zk_X9_262) dX9_gusts_24 ?_
  exact hret _ ls _ _ (-1000000000000000002 : Int64) M L dX9_gusts_27 hw hW
set_option maxRecDepth 20000 in
set_option maxHeartbeats 4000000 in
theorem mX9_gusts_55 {p : Program} {l : Launch} {e : Env} {s : State} {m : MethodId} {args : Array Value} {below : List Frame} {meth : Method} {c : Code} {cells slots : Nat} {Q : State → Prop} {D : va_G} {cy : Nat → ClassId} {ad : Nat → Nat} {A : Nat → Prop} (X : zCx p rmX9_gusts s m args c cells slots cX9_gusts 10 RX9 D cy ad A) (post : Int64 → Mm → Ml → Prop) (hret : zRl p l e rmX9_gusts s m args below meth c cells slots Q cX9_gusts D cy ad A post) (K31 : Mm → Ml → Int32 → Int32 → Int32 → Int32 → Int32 → Int32 → Int32 → Prop) (hK31 : ∀ (M : Mm) (L : Ml) (v1 : Int32) (v2 : Int32) (v3 : Int32) (v4 : Int32) (v5 : Int32) (v6 : Int32) (v7 : Int32) (H : Heap) (locs : List Loc) (ls : Array Slot), K31 M L v1 v2 v3 v4 v5 v6 v7 → zWd D cy ad A s H locs M L → lv_has ls 10 [(0, .ref (ad 42)), (1, .int v1), (2, .int v2), (3, .int v3), (4, .int v4), (5, .int v5), (6, .int v6), (7, .int v7)] → W p l e rmX9_gusts s m args below meth c H locs cells slots Q (F0 m 31 ls [])) : ∀ (M : Mm) (L : Ml) (v1 : Int32) (v2 : Int32) (v3 : Int32) (v4 : Int32) (v5 : Int32) (v6 : Int32) (v7 : Int32) (s0 : Int64) (s1 : Int32) (H : Heap) (locs : List Loc) (ls : Array Slot), wpX9_gusts_55 post K31 M L v1 v2 v3 v4 v5 v6 v7 s0 s1 → zWd D cy ad A s H locs M L → lv_has ls 10 [(0, .ref (ad 42)), (1, .int v1), (2, .int v2), (3, .int v3), (4, .int v4), (5, .int v5), (6, .int v6), (7, .int v7)] → W p l e rmX9_gusts s m args below meth c H locs cells slots Q (F0 m 55 ls [.long s0, .int s1, .ref (ad 62)]) := by
  have hx := X.1.1; have hb0 := X.1.2.1; have hts := X.1.2.2.2.2
  intro M L v1 v2 v3 v4 v5 v6 v7 s0 s1 H locs ls hw hW hl
  unfold wpX9_gusts_55 at hw
  obtain ⟨g_55, hw⟩ := hw
  refine z_last X hW zI_62 g_55 dX9_gusts_55 (fun L_55 H_55 locs_55 e_55 hW => ?_)
  replace hw := hw L_55 e_55
  obtain ⟨a_56, e_56⟩ : ∃ y : Int32, y = v7 + (1 : Int32) := ⟨_, rfl⟩
  replace hw := hw a_56 e_56
  refine lv_iinc (v := a_56) (lv' := [(7, .int a_56), (0, .ref (ad 42)), (1, .int v1), (2, .int v2), (3, .int v3), (4, .int v4), (5, .int v5), (6, .int v6)]) hx hb0 dX9_gusts_56 hl (k := 7) rfl (by rw [e_56]; rfl) (by decide) rfl (fun ls hl => ?_)
  refine lv_goto (tgt := 31) hx hb0 dX9_gusts_59 (by decide) ?_
  exact hK31 M L_55 v1 v2 v3 v4 v5 v6 a_56 _ _ ls hw hW (lv_sub hl [1, 2, 3, 4, 5, 6, 7, 0] rfl)
set_option maxRecDepth 20000 in
set_option maxHeartbeats 4000000 in
theorem mX9_gusts_111 {p : Program} {l : Launch} {e : Env} {s : State} {m : MethodId} {args : Array Value} {below : List Frame} {meth : Method} {c : Code} {cells slots : Nat} {Q : State → Prop} {D : va_G} {cy : Nat → ClassId} {ad : Nat → Nat} {A : Nat → Prop} (X : zCx p rmX9_gusts s m args c cells slots cX9_gusts 10 RX9 D cy ad A) (post : Int64 → Mm → Ml → Prop) (hret : zRl p l e rmX9_gusts s m args below meth c cells slots Q cX9_gusts D cy ad A post) : ∀ (M : Mm) (L : Ml) (v6 : Int32) (v7 : Int64) (s0 : Int32) (H : Heap) (locs : List Loc) (ls : Array Slot), wpX9_gusts_111 post M L v6 v7 s0 → zWd D cy ad A s H locs M L → lv_has ls 10 [(6, .int v6), (7, .long v7)] → W p l e rmX9_gusts s m args below meth c H locs cells slots Q (F0 m 111 ls [.int s0, .ref (ad 62)]) := by
  have hx := X.1.1; have hb0 := X.1.2.1; have hts := X.1.2.2.2.2
  intro M L v6 v7 s0 H locs ls hw hW hl
  unfold wpX9_gusts_111 at hw
  obtain ⟨g_111, hw⟩ := hw
  refine z_lald X hW zI_62 g_111 dX9_gusts_111 ?_
  refine lv_lload hx hb0 dX9_gusts_112 (lv_at hl 1 rfl) ?_
  refine lv_iload hx hb0 dX9_gusts_114 (lv_at hl 0 rfl) ?_
  refine z_Sl X zc_X9_lowest zt_X9_lowest zl_X9_267 rfl ⟨rfl, rfl⟩ ⟨Nat.le_of_ble_eq_true rfl, Nat.le_of_ble_eq_true rfl⟩ (kX9_lowest l D cy ad X.2.2.2.1 (L 62 s0.toNatClampNeg) v7 v6) hW hw hl.1 rfl rfl (Nat.le_of_ble_eq_true rfl) dX9_gusts_116 (fun r_116 M_116 L_116 H_116 locs_116 hw hW => ?_)
  exact hret _ ls _ _ r_116 M_116 L_116 dX9_gusts_119 hw hW
set_option maxRecDepth 20000 in
set_option maxHeartbeats 4000000 in
theorem mX9_gusts_68 {p : Program} {l : Launch} {e : Env} {s : State} {m : MethodId} {args : Array Value} {below : List Frame} {meth : Method} {c : Code} {cells slots : Nat} {Q : State → Prop} {D : va_G} {cy : Nat → ClassId} {ad : Nat → Nat} {A : Nat → Prop} (X : zCx p rmX9_gusts s m args c cells slots cX9_gusts 10 RX9 D cy ad A) (post : Int64 → Mm → Ml → Prop) (hret : zRl p l e rmX9_gusts s m args below meth c cells slots Q cX9_gusts D cy ad A post) : ∀ (j9 : Nat) (M : Mm) (L : Ml) (v2 : Int32) (v3 : Int32) (v4 : Int32) (v5 : Int32) (v6 : Int32) (v7 : Int64) (v9 : Int32) (H : Heap) (locs : List Loc) (ls : Array Slot), wlX9_gusts_68 post j9 (M, L, v2, v3, v4, v5, v6, v7, v9) → zWd D cy ad A s H locs M L → lv_has ls 10 [(0, .ref (ad 42)), (2, .int v2), (3, .int v3), (4, .int v4), (5, .int v5), (6, .int v6), (7, .long v7), (9, .int v9)] → W p l e rmX9_gusts s m args below meth c H locs cells slots Q (F0 m 68 ls []) := by
  have hx := X.1.1; have hb0 := X.1.2.1; have hts := X.1.2.2.2.2
  intro j9
  induction j9 with
  | zero => intro M L v2 v3 v4 v5 v6 v7 v9 H locs ls hw; exact hw.elim
  | succ j9 ih =>
    obtain ⟨K68, hKe⟩ : ∃ K : Mm → Ml → Int32 → Int32 → Int32 → Int32 → Int32 → Int64 → Int32 → Prop, K = fun M L v2 v3 v4 v5 v6 v7 v9 => wlX9_gusts_68 post j9 (M, L, v2, v3, v4, v5, v6, v7, v9) := ⟨_, rfl⟩
    have hK68 : ∀ (M : Mm) (L : Ml) (v2 : Int32) (v3 : Int32) (v4 : Int32) (v5 : Int32) (v6 : Int32) (v7 : Int64) (v9 : Int32) (H : Heap) (locs : List Loc) (ls : Array Slot), K68 M L v2 v3 v4 v5 v6 v7 v9 → zWd D cy ad A s H locs M L → lv_has ls 10 [(0, .ref (ad 42)), (2, .int v2), (3, .int v3), (4, .int v4), (5, .int v5), (6, .int v6), (7, .long v7), (9, .int v9)] → W p l e rmX9_gusts s m args below meth c H locs cells slots Q (F0 m 68 ls []) := by intro M L v2 v3 v4 v5 v6 v7 v9 H locs ls hw; rw [hKe] at hw; exact ih M L v2 v3 v4 v5 v6 v7 v9 H locs ls hw
    intro M L v2 v3 v4 v5 v6 v7 v9 H locs ls hw hW hl
    have hw : wpX9_gusts_68 post K68 M L v2 v3 v4 v5 v6 v7 v9 := by rw [hKe]; exact hw
    clear ih
    unfold wpX9_gusts_68 at hw
    refine lv_iload hx hb0 dX9_gusts_68 (lv_at hl 7 rfl) ?_
    refine lv_iload_n hx hb0 dX9_gusts_70 rfl (lv_at hl 1 rfl) ?_
    refine lv_icmp_ge (tgt := 95) hx hb0 dX9_gusts_71 (by decide) (fun c_71 => ?_) (fun c_71 => ?_)
    · replace hw := hw.1 c_71
      refine lv_aload_n hx hb0 dX9_gusts_95 rfl (lv_at hl 0 rfl) ?_
      refine z_getR (k2 := 62) X hW zC7 zR_42_28 (by decide) rfl zl_X9_69 dX9_gusts_96 ?_
      refine lv_iload hx hb0 dX9_gusts_99 (lv_at hl 4 rfl) ?_
      refine lv_if_ge (tgt := 109) hx hb0 dX9_gusts_101 (by decide) (fun c_101 => ?_) (fun c_101 => ?_)
      · replace hw := hw.1 c_101
        refine lv_iload hx hb0 dX9_gusts_109 (lv_at hl 4 rfl) ?_
        exact mX9_gusts_111 X post hret M L v6 v7 v5 _ _ ls hw hW (lv_sub hl [5, 6] rfl)
      · replace hw := hw.2 c_101
        refine lv_bipush (v := (16 : Int32)) hx hb0 dX9_gusts_104 (by decide) ?_
        refine lv_goto (tgt := 111) hx hb0 dX9_gusts_106 (by decide) ?_
        exact mX9_gusts_111 X post hret M L v6 v7 (16 : Int32) _ _ ls hw hW (lv_sub hl [5, 6] rfl)
    · replace hw := hw.2 c_71
      refine lv_aload_n hx hb0 dX9_gusts_74 rfl (lv_at hl 0 rfl) ?_
      refine lv_iload_n hx hb0 dX9_gusts_75 rfl (lv_at hl 2 rfl) ?_
      refine lv_iload hx hb0 dX9_gusts_76 (lv_at hl 3 rfl) ?_
      refine z_Vv X zO_42 zC7 zc_X9_gust zs_X9_gust zl_X9_264 rfl ⟨rfl, rfl⟩ ⟨Nat.le_of_ble_eq_true rfl, Nat.le_of_ble_eq_true rfl⟩ (kX9_gust l D cy ad X.2.2.2.1 v3 v4) hW hw hl.1 rfl rfl (Nat.le_of_ble_eq_true rfl) dX9_gusts_78 (fun M_78 L_78 H_78 locs_78 hw hW => ?_)
      refine lv_lload hx hb0 dX9_gusts_81 (lv_at hl 6 rfl) ?_
      refine lv_ldc2 (v := (10 : Int64)) hx hb0 X.1.2.2.2.1 (hts _ zk_X9_216) dX9_gusts_83 ?_
      refine lv_lmul hx hb0 dX9_gusts_86 ?_
      refine lv_topl (fun a_87 e_87 => ?_)
      replace hw := hw a_87 e_87
      refine lv_lstore (lv' := [(7, .long a_87), (0, .ref (ad 42)), (2, .int v2), (3, .int v3), (4, .int v4), (5, .int v5), (6, .int v6), (9, .int v9)]) hx hb0 dX9_gusts_87 hl (by decide) rfl (fun ls hl => ?_)
      obtain ⟨a_89, e_89⟩ : ∃ y : Int32, y = v9 + (1 : Int32) := ⟨_, rfl⟩
      replace hw := hw a_89 e_89
      refine lv_iinc (v := a_89) (lv' := [(9, .int a_89), (7, .long a_87), (0, .ref (ad 42)), (2, .int v2), (3, .int v3), (4, .int v4), (5, .int v5), (6, .int v6)]) hx hb0 dX9_gusts_89 hl (k := 7) rfl (by rw [e_89]; rfl) (by decide) rfl (fun ls hl => ?_)
      refine lv_goto (tgt := 68) hx hb0 dX9_gusts_92 (by decide) ?_
      exact hK68 M_78 L_78 v2 v3 v4 v5 v6 a_87 a_89 _ _ ls hw hW (lv_sub hl [2, 3, 4, 5, 6, 7, 1, 0] rfl)
set_option maxRecDepth 20000 in
set_option maxHeartbeats 4000000 in
theorem mX9_gusts_31 {p : Program} {l : Launch} {e : Env} {s : State} {m : MethodId} {args : Array Value} {below : List Frame} {meth : Method} {c : Code} {cells slots : Nat} {Q : State → Prop} {D : va_G} {cy : Nat → ClassId} {ad : Nat → Nat} {A : Nat → Prop} (X : zCx p rmX9_gusts s m args c cells slots cX9_gusts 10 RX9 D cy ad A) (post : Int64 → Mm → Ml → Prop) (hret : zRl p l e rmX9_gusts s m args below meth c cells slots Q cX9_gusts D cy ad A post) : ∀ (j9 : Nat) (M : Mm) (L : Ml) (v1 : Int32) (v2 : Int32) (v3 : Int32) (v4 : Int32) (v5 : Int32) (v6 : Int32) (v7 : Int32) (H : Heap) (locs : List Loc) (ls : Array Slot), wlX9_gusts_31 post j9 (M, L, v1, v2, v3, v4, v5, v6, v7) → zWd D cy ad A s H locs M L → lv_has ls 10 [(0, .ref (ad 42)), (1, .int v1), (2, .int v2), (3, .int v3), (4, .int v4), (5, .int v5), (6, .int v6), (7, .int v7)] → W p l e rmX9_gusts s m args below meth c H locs cells slots Q (F0 m 31 ls []) := by
  have hx := X.1.1; have hb0 := X.1.2.1; have hts := X.1.2.2.2.2
  intro j9
  induction j9 with
  | zero => intro M L v1 v2 v3 v4 v5 v6 v7 H locs ls hw; exact hw.elim
  | succ j9 ih =>
    obtain ⟨K31, hKe⟩ : ∃ K : Mm → Ml → Int32 → Int32 → Int32 → Int32 → Int32 → Int32 → Int32 → Prop, K = fun M L v1 v2 v3 v4 v5 v6 v7 => wlX9_gusts_31 post j9 (M, L, v1, v2, v3, v4, v5, v6, v7) := ⟨_, rfl⟩
    have hK31 : ∀ (M : Mm) (L : Ml) (v1 : Int32) (v2 : Int32) (v3 : Int32) (v4 : Int32) (v5 : Int32) (v6 : Int32) (v7 : Int32) (H : Heap) (locs : List Loc) (ls : Array Slot), K31 M L v1 v2 v3 v4 v5 v6 v7 → zWd D cy ad A s H locs M L → lv_has ls 10 [(0, .ref (ad 42)), (1, .int v1), (2, .int v2), (3, .int v3), (4, .int v4), (5, .int v5), (6, .int v6), (7, .int v7)] → W p l e rmX9_gusts s m args below meth c H locs cells slots Q (F0 m 31 ls []) := by intro M L v1 v2 v3 v4 v5 v6 v7 H locs ls hw; rw [hKe] at hw; exact ih M L v1 v2 v3 v4 v5 v6 v7 H locs ls hw
    intro M L v1 v2 v3 v4 v5 v6 v7 H locs ls hw hW hl
    have hw : wpX9_gusts_31 post K31 M L v1 v2 v3 v4 v5 v6 v7 := by rw [hKe]; exact hw
    clear ih
    unfold wpX9_gusts_31 at hw
    refine lv_iload hx hb0 dX9_gusts_31 (lv_at hl 7 rfl) ?_
    refine lv_bipush (v := (16 : Int32)) hx hb0 dX9_gusts_33 (by decide) ?_
    refine lv_icmp_gt (tgt := 62) hx hb0 dX9_gusts_35 (by decide) (fun c_35 => ?_) (fun c_35 => ?_)
    · replace hw := hw.1 c_35
      refine lv_lconst (v := (1 : Int64)) hx hb0 dX9_gusts_62 (by decide) ?_
      refine lv_lstore (lv' := [(7, .long (1 : Int64)), (0, .ref (ad 42)), (1, .int v1), (2, .int v2), (3, .int v3), (4, .int v4), (5, .int v5), (6, .int v6)]) hx hb0 dX9_gusts_63 hl (by decide) rfl (fun ls hl => ?_)
      refine lv_iconst (v := (0 : Int32)) hx hb0 dX9_gusts_65 (by decide) ?_
      refine lv_istore (lv' := [(9, .int (0 : Int32)), (7, .long (1 : Int64)), (0, .ref (ad 42)), (1, .int v1), (2, .int v2), (3, .int v3), (4, .int v4), (5, .int v5), (6, .int v6)]) hx hb0 dX9_gusts_66 hl (by decide) rfl (fun ls hl => ?_)
      obtain ⟨n_68, hw⟩ := hw
      exact mX9_gusts_68 X post hret n_68 M L v2 v3 v4 v5 v6 (1 : Int64) (0 : Int32) _ _ ls hw hW (lv_sub hl [2, 4, 5, 6, 7, 8, 1, 0] rfl)
    · replace hw := hw.2 c_35
      refine lv_aload_n hx hb0 dX9_gusts_38 rfl (lv_at hl 0 rfl) ?_
      refine z_getR (k2 := 62) X hW zC7 zR_42_28 (by decide) rfl zl_X9_69 dX9_gusts_39 ?_
      refine lv_iload hx hb0 dX9_gusts_42 (lv_at hl 7 rfl) ?_
      refine lv_iload hx hb0 dX9_gusts_44 (lv_at hl 7 rfl) ?_
      refine lv_iload_n hx hb0 dX9_gusts_46 rfl (lv_at hl 1 rfl) ?_
      refine lv_icmp_ne (tgt := 54) hx hb0 dX9_gusts_47 (by decide) (fun c_47 => ?_) (fun c_47 => ?_)
      · replace hw := hw.1 c_47
        refine lv_lconst (v := (0 : Int64)) hx hb0 dX9_gusts_54 (by decide) ?_
        exact mX9_gusts_55 X post hret K31 hK31 M L v1 v2 v3 v4 v5 v6 v7 (0 : Int64) v7 _ _ ls hw hW (lv_sub hl [0, 1, 2, 3, 4, 5, 6, 7] rfl)
      · replace hw := hw.2 c_47
        refine lv_lconst (v := (1 : Int64)) hx hb0 dX9_gusts_50 (by decide) ?_
        refine lv_goto (tgt := 55) hx hb0 dX9_gusts_51 (by decide) ?_
        exact mX9_gusts_55 X post hret K31 hK31 M L v1 v2 v3 v4 v5 v6 v7 (1 : Int64) v7 _ _ ls hw hW (lv_sub hl [0, 1, 2, 3, 4, 5, 6, 7] rfl)
set_option maxRecDepth 20000 in
set_option maxHeartbeats 4000000 in
theorem mX9_gusts {p : Program} {l : Launch} {e : Env} {s : State} {m : MethodId} {args : Array Value} {below : List Frame} {meth : Method} {c : Code} {cells slots : Nat} {Q : State → Prop} {D : va_G} {cy : Nat → ClassId} {ad : Nat → Nat} {A : Nat → Prop} (X : zCx p rmX9_gusts s m args c cells slots cX9_gusts 10 RX9 D cy ad A) (post : Int64 → Mm → Ml → Prop) (hret : zRl p l e rmX9_gusts s m args below meth c cells slots Q cX9_gusts D cy ad A post) : ∀ (M : Mm) (L : Ml) (x1 : Int32) (x2 : Int32) (x3 : Int32) (x4 : Int32) (x5 : Int32) (x6 : Int32) (H : Heap) (locs : List Loc) (ls : Array Slot), wpX9_gusts x1 x2 x3 x4 x5 x6 M L post → zWd D cy ad A s H locs M L → lv_has ls 10 [(0, .ref (ad 42)), (1, .int x1), (2, .int x2), (3, .int x3), (4, .int x4), (5, .int x5), (6, .int x6)] → W p l e rmX9_gusts s m args below meth c H locs cells slots Q (F0 m 0 ls []) := by
  have hx := X.1.1; have hb0 := X.1.2.1; have hts := X.1.2.2.2.2
  intro M L x1 x2 x3 x4 x5 x6 H locs ls hw hW hl
  unfold wpX9_gusts at hw
  refine lv_iload_n hx hb0 dX9_gusts_0 rfl (lv_at hl 1 rfl) ?_
  refine lv_iload_n hx hb0 dX9_gusts_1 rfl (lv_at hl 2 rfl) ?_
  refine lv_iload_n hx hb0 dX9_gusts_2 rfl (lv_at hl 3 rfl) ?_
  refine lv_iload hx hb0 dX9_gusts_3 (lv_at hl 4 rfl) ?_
  refine lv_iload hx hb0 dX9_gusts_5 (lv_at hl 5 rfl) ?_
  refine z_Si X zc_X9_areGusts zt_X9_areGusts zl_X9_258 rfl ⟨rfl, rfl⟩ ⟨Nat.le_of_ble_eq_true rfl, Nat.le_of_ble_eq_true rfl⟩ (kX9_areGusts l D cy ad X.2.2.2.1 x1 x2 x3 x4 x5) hW hw hl.1 rfl rfl (Nat.le_of_ble_eq_true rfl) dX9_gusts_7 (fun r_7 M_7 L_7 H_7 locs_7 hw hW => ?_)
  refine lv_if_eq (tgt := 24) hx hb0 dX9_gusts_10 (by decide) (fun c_10 => ?_) (fun c_10 => ?_)
  · replace hw := hw.1 c_10
    exact mX9_gusts_24 X post hret M_7 L_7 _ _ ls hw hW (lv_sub hl [] rfl)
  · replace hw := hw.2 c_10
    refine lv_iload hx hb0 dX9_gusts_13 (lv_at hl 6 rfl) ?_
    refine lv_i2l hx hb0 dX9_gusts_15 rfl ?_
    refine lv_lconst (v := (0 : Int64)) hx hb0 dX9_gusts_16 (by decide) ?_
    refine lv_lconst (v := (1 : Int64)) hx hb0 dX9_gusts_17 (by decide) ?_
    refine z_Si X zc_X9_in zt_X9_in zl_X9_86 rfl ⟨rfl, rfl⟩ ⟨Nat.le_of_ble_eq_true rfl, Nat.le_of_ble_eq_true rfl⟩ (kX9_in l D cy ad X.2.2.2.1 (x6.toInt64) (0 : Int64) (1 : Int64)) hW hw hl.1 rfl rfl (Nat.le_of_ble_eq_true rfl) dX9_gusts_18 (fun r_18 M_18 L_18 H_18 locs_18 hw hW => ?_)
    refine lv_if_ne (tgt := 28) hx hb0 dX9_gusts_21 (by decide) (fun c_21 => ?_) (fun c_21 => ?_)
    · replace hw := hw.1 c_21
      refine lv_iconst (v := (0 : Int32)) hx hb0 dX9_gusts_28 (by decide) ?_
      refine lv_istore (lv' := [(7, .int (0 : Int32)), (0, .ref (ad 42)), (1, .int x1), (2, .int x2), (3, .int x3), (4, .int x4), (5, .int x5), (6, .int x6)]) hx hb0 dX9_gusts_29 hl (by decide) rfl (fun ls hl => ?_)
      obtain ⟨n_31, hw⟩ := hw
      exact mX9_gusts_31 X post hret n_31 M_18 L_18 x1 x2 x3 x4 x5 x6 (0 : Int32) _ _ ls hw hW (lv_sub hl [1, 2, 3, 4, 5, 6, 7, 0] rfl)
    · replace hw := hw.2 c_21
      exact mX9_gusts_24 X post hret M_18 L_18 _ _ ls hw hW (lv_sub hl [] rfl)
theorem kX9_gusts (l : Launch) (D : va_G) (cy : Nat → ClassId) (ad : Nat → Nat) (hi : zInj ad) (x1 : Int32) (x2 : Int32) (x3 : Int32) (x4 : Int32) (x5 : Int32) (x6 : Int32) : zMl l yX9_gusts (.code yX9_gusts cX9_gusts 10 (some .long) :: zG) rmX9_gusts D cy ad [.ref (ad 42), .int x1, .int x2, .int x3, .int x4, .int x5, .int x6] (wpX9_gusts x1 x2 x3 x4 x5 x6) :=
  zMl_of (by decide +kernel) (Nat.le_of_ble_eq_true rfl) hi (fun X M L post _ hret ls hl hw hW => mX9_gusts X post hret M L x1 x2 x3 x4 x5 x6 _ _ ls hw hW hl)
abbrev rmX9_bestTake : Room := { frames := 0, cells := 0, slots := 0, locals := 0 }
set_option maxRecDepth 20000 in
set_option maxHeartbeats 4000000 in
theorem mX9_bestTake_66 {p : Program} {l : Launch} {e : Env} {s : State} {m : MethodId} {args : Array Value} {below : List Frame} {meth : Method} {c : Code} {cells slots : Nat} {Q : State → Prop} {D : va_G} {cy : Nat → ClassId} {ad : Nat → Nat} {A : Nat → Prop} (X : zCx p rmX9_bestTake s m args c cells slots cX9_bestTake 6 RX9 D cy ad A) (post : Int32 → Mm → Ml → Prop) (hret : zRi p l e rmX9_bestTake s m args below meth c cells slots Q cX9_bestTake D cy ad A .int post) (K5 : Mm → Ml → Int32 → Int32 → Int32 → Int32 → Prop) (hK5 : ∀ (M : Mm) (L : Ml) (v1 : Int32) (v2 : Int32) (v3 : Int32) (v4 : Int32) (H : Heap) (locs : List Loc) (ls : Array Slot), K5 M L v1 v2 v3 v4 → zWd D cy ad A s H locs M L → lv_has ls 6 [(0, .ref (ad 42)), (1, .int v1), (2, .int v2), (3, .int v3), (4, .int v4)] → W p l e rmX9_bestTake s m args below meth c H locs cells slots Q (F0 m 5 ls [])) : ∀ (M : Mm) (L : Ml) (v1 : Int32) (v2 : Int32) (v4 : Int32) (s0 : Int32) (H : Heap) (locs : List Loc) (ls : Array Slot), wpX9_bestTake_66 post K5 M L v1 v2 v4 s0 → zWd D cy ad A s H locs M L → lv_has ls 6 [(0, .ref (ad 42)), (1, .int v1), (2, .int v2), (4, .int v4)] → W p l e rmX9_bestTake s m args below meth c H locs cells slots Q (F0 m 66 ls [.int s0]) := by
  have hx := X.1.1; have hb0 := X.1.2.1; have hts := X.1.2.2.2.2
  intro M L v1 v2 v4 s0 H locs ls hw hW hl
  unfold wpX9_bestTake_66 at hw
  refine lv_istore_n (lv' := [(3, .int s0), (0, .ref (ad 42)), (1, .int v1), (2, .int v2), (4, .int v4)]) hx hb0 dX9_bestTake_66 rfl hl (by decide) rfl (fun ls hl => ?_)
  obtain ⟨a_67, e_67⟩ : ∃ y : Int32, y = v4 + (-1 : Int32) := ⟨_, rfl⟩
  replace hw := hw a_67 e_67
  refine lv_iinc (v := a_67) (lv' := [(4, .int a_67), (3, .int s0), (0, .ref (ad 42)), (1, .int v1), (2, .int v2)]) hx hb0 dX9_bestTake_67 hl (k := 4) rfl (by rw [e_67]; rfl) (by decide) rfl (fun ls hl => ?_)
  refine lv_goto (tgt := 5) hx hb0 dX9_bestTake_70 (by decide) ?_
  exact hK5 M L v1 v2 s0 a_67 _ _ ls hw hW (lv_sub hl [2, 3, 4, 1, 0] rfl)
set_option maxRecDepth 20000 in
set_option maxHeartbeats 4000000 in
theorem mX9_bestTake_65 {p : Program} {l : Launch} {e : Env} {s : State} {m : MethodId} {args : Array Value} {below : List Frame} {meth : Method} {c : Code} {cells slots : Nat} {Q : State → Prop} {D : va_G} {cy : Nat → ClassId} {ad : Nat → Nat} {A : Nat → Prop} (X : zCx p rmX9_bestTake s m args c cells slots cX9_bestTake 6 RX9 D cy ad A) (post : Int32 → Mm → Ml → Prop) (hret : zRi p l e rmX9_bestTake s m args below meth c cells slots Q cX9_bestTake D cy ad A .int post) (K5 : Mm → Ml → Int32 → Int32 → Int32 → Int32 → Prop) (hK5 : ∀ (M : Mm) (L : Ml) (v1 : Int32) (v2 : Int32) (v3 : Int32) (v4 : Int32) (H : Heap) (locs : List Loc) (ls : Array Slot), K5 M L v1 v2 v3 v4 → zWd D cy ad A s H locs M L → lv_has ls 6 [(0, .ref (ad 42)), (1, .int v1), (2, .int v2), (3, .int v3), (4, .int v4)] → W p l e rmX9_bestTake s m args below meth c H locs cells slots Q (F0 m 5 ls [])) : ∀ (M : Mm) (L : Ml) (v1 : Int32) (v2 : Int32) (v3 : Int32) (v4 : Int32) (H : Heap) (locs : List Loc) (ls : Array Slot), wpX9_bestTake_65 post K5 M L v1 v2 v3 v4 → zWd D cy ad A s H locs M L → lv_has ls 6 [(0, .ref (ad 42)), (1, .int v1), (2, .int v2), (3, .int v3), (4, .int v4)] → W p l e rmX9_bestTake s m args below meth c H locs cells slots Q (F0 m 65 ls []) := by
  have hx := X.1.1; have hb0 := X.1.2.1; have hts := X.1.2.2.2.2
  intro M L v1 v2 v3 v4 H locs ls hw hW hl
  unfold wpX9_bestTake_65 at hw
  refine lv_iload_n hx hb0 dX9_bestTake_65 rfl (lv_at hl 3 rfl) ?_
  exact mX9_bestTake_66 X post hret K5 hK5 M L v1 v2 v4 v3 _ _ ls hw hW (lv_sub hl [0, 1, 2, 4] rfl)
set_option maxRecDepth 20000 in
set_option maxHeartbeats 4000000 in
theorem mX9_bestTake_51 {p : Program} {l : Launch} {e : Env} {s : State} {m : MethodId} {args : Array Value} {below : List Frame} {meth : Method} {c : Code} {cells slots : Nat} {Q : State → Prop} {D : va_G} {cy : Nat → ClassId} {ad : Nat → Nat} {A : Nat → Prop} (X : zCx p rmX9_bestTake s m args c cells slots cX9_bestTake 6 RX9 D cy ad A) (post : Int32 → Mm → Ml → Prop) (hret : zRi p l e rmX9_bestTake s m args below meth c cells slots Q cX9_bestTake D cy ad A .int post) (K5 : Mm → Ml → Int32 → Int32 → Int32 → Int32 → Prop) (hK5 : ∀ (M : Mm) (L : Ml) (v1 : Int32) (v2 : Int32) (v3 : Int32) (v4 : Int32) (H : Heap) (locs : List Loc) (ls : Array Slot), K5 M L v1 v2 v3 v4 → zWd D cy ad A s H locs M L → lv_has ls 6 [(0, .ref (ad 42)), (1, .int v1), (2, .int v2), (3, .int v3), (4, .int v4)] → W p l e rmX9_bestTake s m args below meth c H locs cells slots Q (F0 m 5 ls [])) : ∀ (M : Mm) (L : Ml) (v1 : Int32) (v2 : Int32) (v3 : Int32) (v4 : Int32) (s0 : Int32) (s1 : Int32) (s2 : Int32) (H : Heap) (locs : List Loc) (ls : Array Slot), wpX9_bestTake_51 post K5 M L v1 v2 v3 v4 s0 s1 s2 → zWd D cy ad A s H locs M L → lv_has ls 6 [(0, .ref (ad 42)), (1, .int v1), (2, .int v2), (3, .int v3), (4, .int v4)] → W p l e rmX9_bestTake s m args below meth c H locs cells slots Q (F0 m 51 ls [.int s0, .int s1, .int s2, .ref (ad 64)]) := by
  have hx := X.1.1; have hb0 := X.1.2.1; have hts := X.1.2.2.2.2
  intro M L v1 v2 v3 v4 s0 s1 s2 H locs ls hw hW hl
  unfold wpX9_bestTake_51 at hw
  refine lv_isub hx hb0 dX9_bestTake_51 ?_
  refine lv_imul hx hb0 dX9_bestTake_52 ?_
  refine lv_iload hx hb0 dX9_bestTake_53 (lv_at hl 4 rfl) ?_
  refine lv_iadd hx hb0 dX9_bestTake_55 ?_
  obtain ⟨g_56, hw⟩ := hw
  refine z_iald X hW zI_64 g_56 dX9_bestTake_56 ?_
  refine lv_if_ne (tgt := 65) hx hb0 dX9_bestTake_57 (by decide) (fun c_57 => ?_) (fun c_57 => ?_)
  · replace hw := hw.1 c_57
    exact mX9_bestTake_65 X post hret K5 hK5 M L v1 v2 v3 v4 _ _ ls hw hW (lv_sub hl [0, 1, 2, 3, 4] rfl)
  · replace hw := hw.2 c_57
    refine lv_iload hx hb0 dX9_bestTake_60 (lv_at hl 4 rfl) ?_
    refine lv_goto (tgt := 66) hx hb0 dX9_bestTake_62 (by decide) ?_
    exact mX9_bestTake_66 X post hret K5 hK5 M L v1 v2 v4 v4 _ _ ls hw hW (lv_sub hl [0, 1, 2, 4] rfl)
set_option maxRecDepth 20000 in
set_option maxHeartbeats 4000000 in
theorem mX9_bestTake_27 {p : Program} {l : Launch} {e : Env} {s : State} {m : MethodId} {args : Array Value} {below : List Frame} {meth : Method} {c : Code} {cells slots : Nat} {Q : State → Prop} {D : va_G} {cy : Nat → ClassId} {ad : Nat → Nat} {A : Nat → Prop} (X : zCx p rmX9_bestTake s m args c cells slots cX9_bestTake 6 RX9 D cy ad A) (post : Int32 → Mm → Ml → Prop) (hret : zRi p l e rmX9_bestTake s m args below meth c cells slots Q cX9_bestTake D cy ad A .int post) (K5 : Mm → Ml → Int32 → Int32 → Int32 → Int32 → Prop) (hK5 : ∀ (M : Mm) (L : Ml) (v1 : Int32) (v2 : Int32) (v3 : Int32) (v4 : Int32) (H : Heap) (locs : List Loc) (ls : Array Slot), K5 M L v1 v2 v3 v4 → zWd D cy ad A s H locs M L → lv_has ls 6 [(0, .ref (ad 42)), (1, .int v1), (2, .int v2), (3, .int v3), (4, .int v4)] → W p l e rmX9_bestTake s m args below meth c H locs cells slots Q (F0 m 5 ls [])) : ∀ (M : Mm) (L : Ml) (v1 : Int32) (v2 : Int32) (v3 : Int32) (v4 : Int32) (s0 : Int32) (H : Heap) (locs : List Loc) (ls : Array Slot), wpX9_bestTake_27 post K5 M L v1 v2 v3 v4 s0 → zWd D cy ad A s H locs M L → lv_has ls 6 [(0, .ref (ad 42)), (1, .int v1), (2, .int v2), (3, .int v3), (4, .int v4)] → W p l e rmX9_bestTake s m args below meth c H locs cells slots Q (F0 m 27 ls [.int s0]) := by
  have hx := X.1.1; have hb0 := X.1.2.1; have hts := X.1.2.2.2.2
  intro M L v1 v2 v3 v4 s0 H locs ls hw hW hl
  unfold wpX9_bestTake_27 at hw
  refine lv_istore (lv' := [(5, .int s0), (0, .ref (ad 42)), (1, .int v1), (2, .int v2), (3, .int v3), (4, .int v4)]) hx hb0 dX9_bestTake_27 hl (by decide) rfl (fun ls hl => ?_)
  refine lv_iload hx hb0 dX9_bestTake_29 (lv_at hl 0 rfl) ?_
  refine lv_if_eq (tgt := 65) hx hb0 dX9_bestTake_31 (by decide) (fun c_31 => ?_) (fun c_31 => ?_)
  · replace hw := hw.1 c_31
    exact mX9_bestTake_65 X post hret K5 hK5 M L v1 v2 v3 v4 _ _ ls hw hW (lv_sub hl [1, 2, 3, 4, 5] rfl)
  · replace hw := hw.2 c_31
    refine lv_aload_n hx hb0 dX9_bestTake_34 rfl (lv_at hl 1 rfl) ?_
    refine z_getR (k2 := 64) X hW zC7 zR_42_30 (by decide) rfl zl_X9_75 dX9_bestTake_35 ?_
    refine lv_iconst (v := (4 : Int32)) hx hb0 dX9_bestTake_38 (by decide) ?_
    refine lv_iload_n hx hb0 dX9_bestTake_39 rfl (lv_at hl 2 rfl) ?_
    refine lv_iload hx hb0 dX9_bestTake_40 (lv_at hl 0 rfl) ?_
    refine lv_if_eq (tgt := 50) hx hb0 dX9_bestTake_42 (by decide) (fun c_42 => ?_) (fun c_42 => ?_)
    · replace hw := hw.1 c_42
      refine lv_iconst (v := (0 : Int32)) hx hb0 dX9_bestTake_50 (by decide) ?_
      exact mX9_bestTake_51 X post hret K5 hK5 M L v1 v2 v3 v4 (0 : Int32) v1 (4 : Int32) _ _ ls hw hW (lv_sub hl [1, 2, 3, 4, 5] rfl)
    · replace hw := hw.2 c_42
      refine lv_iload hx hb0 dX9_bestTake_45 (lv_at hl 5 rfl) ?_
      refine lv_goto (tgt := 51) hx hb0 dX9_bestTake_47 (by decide) ?_
      exact mX9_bestTake_51 X post hret K5 hK5 M L v1 v2 v3 v4 v4 v1 (4 : Int32) _ _ ls hw hW (lv_sub hl [1, 2, 3, 4, 5] rfl)
set_option maxRecDepth 20000 in
set_option maxHeartbeats 4000000 in
theorem mX9_bestTake_26 {p : Program} {l : Launch} {e : Env} {s : State} {m : MethodId} {args : Array Value} {below : List Frame} {meth : Method} {c : Code} {cells slots : Nat} {Q : State → Prop} {D : va_G} {cy : Nat → ClassId} {ad : Nat → Nat} {A : Nat → Prop} (X : zCx p rmX9_bestTake s m args c cells slots cX9_bestTake 6 RX9 D cy ad A) (post : Int32 → Mm → Ml → Prop) (hret : zRi p l e rmX9_bestTake s m args below meth c cells slots Q cX9_bestTake D cy ad A .int post) (K5 : Mm → Ml → Int32 → Int32 → Int32 → Int32 → Prop) (hK5 : ∀ (M : Mm) (L : Ml) (v1 : Int32) (v2 : Int32) (v3 : Int32) (v4 : Int32) (H : Heap) (locs : List Loc) (ls : Array Slot), K5 M L v1 v2 v3 v4 → zWd D cy ad A s H locs M L → lv_has ls 6 [(0, .ref (ad 42)), (1, .int v1), (2, .int v2), (3, .int v3), (4, .int v4)] → W p l e rmX9_bestTake s m args below meth c H locs cells slots Q (F0 m 5 ls [])) : ∀ (M : Mm) (L : Ml) (v1 : Int32) (v2 : Int32) (v3 : Int32) (v4 : Int32) (H : Heap) (locs : List Loc) (ls : Array Slot), wpX9_bestTake_26 post K5 M L v1 v2 v3 v4 → zWd D cy ad A s H locs M L → lv_has ls 6 [(0, .ref (ad 42)), (1, .int v1), (2, .int v2), (3, .int v3), (4, .int v4)] → W p l e rmX9_bestTake s m args below meth c H locs cells slots Q (F0 m 26 ls []) := by
  have hx := X.1.1; have hb0 := X.1.2.1; have hts := X.1.2.2.2.2
  intro M L v1 v2 v3 v4 H locs ls hw hW hl
  unfold wpX9_bestTake_26 at hw
  refine lv_iconst (v := (0 : Int32)) hx hb0 dX9_bestTake_26 (by decide) ?_
  exact mX9_bestTake_27 X post hret K5 hK5 M L v1 v2 v3 v4 (0 : Int32) _ _ ls hw hW (lv_sub hl [0, 1, 2, 3, 4] rfl)
set_option maxRecDepth 20000 in
set_option maxHeartbeats 4000000 in
theorem mX9_bestTake_5 {p : Program} {l : Launch} {e : Env} {s : State} {m : MethodId} {args : Array Value} {below : List Frame} {meth : Method} {c : Code} {cells slots : Nat} {Q : State → Prop} {D : va_G} {cy : Nat → ClassId} {ad : Nat → Nat} {A : Nat → Prop} (X : zCx p rmX9_bestTake s m args c cells slots cX9_bestTake 6 RX9 D cy ad A) (post : Int32 → Mm → Ml → Prop) (hret : zRi p l e rmX9_bestTake s m args below meth c cells slots Q cX9_bestTake D cy ad A .int post) : ∀ (j9 : Nat) (M : Mm) (L : Ml) (v1 : Int32) (v2 : Int32) (v3 : Int32) (v4 : Int32) (H : Heap) (locs : List Loc) (ls : Array Slot), wlX9_bestTake_5 post j9 (M, L, v1, v2, v3, v4) → zWd D cy ad A s H locs M L → lv_has ls 6 [(0, .ref (ad 42)), (1, .int v1), (2, .int v2), (3, .int v3), (4, .int v4)] → W p l e rmX9_bestTake s m args below meth c H locs cells slots Q (F0 m 5 ls []) := by
  have hx := X.1.1; have hb0 := X.1.2.1; have hts := X.1.2.2.2.2
  intro j9
  induction j9 with
  | zero => intro M L v1 v2 v3 v4 H locs ls hw; exact hw.elim
  | succ j9 ih =>
    obtain ⟨K5, hKe⟩ : ∃ K : Mm → Ml → Int32 → Int32 → Int32 → Int32 → Prop, K = fun M L v1 v2 v3 v4 => wlX9_bestTake_5 post j9 (M, L, v1, v2, v3, v4) := ⟨_, rfl⟩
    have hK5 : ∀ (M : Mm) (L : Ml) (v1 : Int32) (v2 : Int32) (v3 : Int32) (v4 : Int32) (H : Heap) (locs : List Loc) (ls : Array Slot), K5 M L v1 v2 v3 v4 → zWd D cy ad A s H locs M L → lv_has ls 6 [(0, .ref (ad 42)), (1, .int v1), (2, .int v2), (3, .int v3), (4, .int v4)] → W p l e rmX9_bestTake s m args below meth c H locs cells slots Q (F0 m 5 ls []) := by intro M L v1 v2 v3 v4 H locs ls hw; rw [hKe] at hw; exact ih M L v1 v2 v3 v4 H locs ls hw
    intro M L v1 v2 v3 v4 H locs ls hw hW hl
    have hw : wpX9_bestTake_5 post K5 M L v1 v2 v3 v4 := by rw [hKe]; exact hw
    clear ih
    unfold wpX9_bestTake_5 at hw
    refine lv_iload hx hb0 dX9_bestTake_5 (lv_at hl 4 rfl) ?_
    refine lv_if_le (tgt := 73) hx hb0 dX9_bestTake_7 (by decide) (fun c_7 => ?_) (fun c_7 => ?_)
    · replace hw := hw.1 c_7
      refine lv_iload_n hx hb0 dX9_bestTake_73 rfl (lv_at hl 3 rfl) ?_
      exact hret _ ls _ _ v3 M L dX9_bestTake_74 rfl hw hW
    · replace hw := hw.2 c_7
      refine lv_iload hx hb0 dX9_bestTake_10 (lv_at hl 4 rfl) ?_
      refine lv_iload_n hx hb0 dX9_bestTake_12 rfl (lv_at hl 2 rfl) ?_
      refine lv_icmp_eq (tgt := 26) hx hb0 dX9_bestTake_13 (by decide) (fun c_13 => ?_) (fun c_13 => ?_)
      · replace hw := hw.1 c_13
        exact mX9_bestTake_26 X post hret K5 hK5 M L v1 v2 v3 v4 _ _ ls hw hW (lv_sub hl [0, 1, 2, 3, 4] rfl)
      · replace hw := hw.2 c_13
        refine lv_iload hx hb0 dX9_bestTake_16 (lv_at hl 4 rfl) ?_
        refine lv_iload_n hx hb0 dX9_bestTake_18 rfl (lv_at hl 1 rfl) ?_
        refine lv_icmp_gt (tgt := 26) hx hb0 dX9_bestTake_19 (by decide) (fun c_19 => ?_) (fun c_19 => ?_)
        · replace hw := hw.1 c_19
          exact mX9_bestTake_26 X post hret K5 hK5 M L v1 v2 v3 v4 _ _ ls hw hW (lv_sub hl [0, 1, 2, 3, 4] rfl)
        · replace hw := hw.2 c_19
          refine lv_iconst (v := (1 : Int32)) hx hb0 dX9_bestTake_22 (by decide) ?_
          refine lv_goto (tgt := 27) hx hb0 dX9_bestTake_23 (by decide) ?_
          exact mX9_bestTake_27 X post hret K5 hK5 M L v1 v2 v3 v4 (1 : Int32) _ _ ls hw hW (lv_sub hl [0, 1, 2, 3, 4] rfl)
set_option maxRecDepth 20000 in
set_option maxHeartbeats 4000000 in
theorem mX9_bestTake {p : Program} {l : Launch} {e : Env} {s : State} {m : MethodId} {args : Array Value} {below : List Frame} {meth : Method} {c : Code} {cells slots : Nat} {Q : State → Prop} {D : va_G} {cy : Nat → ClassId} {ad : Nat → Nat} {A : Nat → Prop} (X : zCx p rmX9_bestTake s m args c cells slots cX9_bestTake 6 RX9 D cy ad A) (post : Int32 → Mm → Ml → Prop) (hret : zRi p l e rmX9_bestTake s m args below meth c cells slots Q cX9_bestTake D cy ad A .int post) : ∀ (M : Mm) (L : Ml) (x1 : Int32) (x2 : Int32) (H : Heap) (locs : List Loc) (ls : Array Slot), wpX9_bestTake x1 x2 M L post → zWd D cy ad A s H locs M L → lv_has ls 6 [(0, .ref (ad 42)), (1, .int x1), (2, .int x2)] → W p l e rmX9_bestTake s m args below meth c H locs cells slots Q (F0 m 0 ls []) := by
  have hx := X.1.1; have hb0 := X.1.2.1; have hts := X.1.2.2.2.2
  intro M L x1 x2 H locs ls hw hW hl
  unfold wpX9_bestTake at hw
  refine lv_iconst (v := (0 : Int32)) hx hb0 dX9_bestTake_0 (by decide) ?_
  refine lv_istore_n (lv' := [(3, .int (0 : Int32)), (0, .ref (ad 42)), (1, .int x1), (2, .int x2)]) hx hb0 dX9_bestTake_1 rfl hl (by decide) rfl (fun ls hl => ?_)
  refine lv_iconst (v := (3 : Int32)) hx hb0 dX9_bestTake_2 (by decide) ?_
  refine lv_istore (lv' := [(4, .int (3 : Int32)), (3, .int (0 : Int32)), (0, .ref (ad 42)), (1, .int x1), (2, .int x2)]) hx hb0 dX9_bestTake_3 hl (by decide) rfl (fun ls hl => ?_)
  obtain ⟨n_5, hw⟩ := hw
  exact mX9_bestTake_5 X post hret n_5 M L x1 x2 (0 : Int32) (3 : Int32) _ _ ls hw hW (lv_sub hl [2, 3, 4, 1, 0] rfl)
theorem kX9_bestTake (l : Launch) (D : va_G) (cy : Nat → ClassId) (ad : Nat → Nat) (hi : zInj ad) (x1 : Int32) (x2 : Int32) : zMi l yX9_bestTake (.code yX9_bestTake cX9_bestTake 6 (some .int) :: zG) rmX9_bestTake D cy ad [.ref (ad 42), .int x1, .int x2] (wpX9_bestTake x1 x2) :=
  zMi_of (by decide +kernel) (Nat.le_of_ble_eq_true rfl) hi (fun X M L post _ hret ls hl hw hW => mX9_bestTake X post hret M L x1 x2 _ _ ls hw hW hl)
abbrev rmX9_spoon : Room := { frames := 1, cells := 0, slots := 0, locals := 25 }
set_option maxRecDepth 20000 in
set_option maxHeartbeats 4000000 in
theorem mX9_spoon_22 {p : Program} {l : Launch} {e : Env} {s : State} {m : MethodId} {args : Array Value} {below : List Frame} {meth : Method} {c : Code} {cells slots : Nat} {Q : State → Prop} {D : va_G} {cy : Nat → ClassId} {ad : Nat → Nat} {A : Nat → Prop} (X : zCx p rmX9_spoon s m args c cells slots cX9_spoon 5 RX9 D cy ad A) (post : Int32 → Mm → Ml → Prop) (hret : zRi p l e rmX9_spoon s m args below meth c cells slots Q cX9_spoon D cy ad A .int post) : ∀ (M : Mm) (L : Ml) (H : Heap) (locs : List Loc) (ls : Array Slot), wpX9_spoon_22 post M L → zWd D cy ad A s H locs M L → lv_has ls 5 [] → W p l e rmX9_spoon s m args below meth c H locs cells slots Q (F0 m 22 ls []) := by
  have hx := X.1.1; have hb0 := X.1.2.1; have hts := X.1.2.2.2.2
  intro M L H locs ls hw hW hl
  unfold wpX9_spoon_22 at hw
  refine lv_bipush (v := (-2 : Int32)) hx hb0 dX9_spoon_22 (by decide) ?_
  exact hret _ ls _ _ (-2 : Int32) M L dX9_spoon_24 rfl hw hW
set_option maxRecDepth 20000 in
set_option maxHeartbeats 4000000 in
theorem mX9_spoon_35 {p : Program} {l : Launch} {e : Env} {s : State} {m : MethodId} {args : Array Value} {below : List Frame} {meth : Method} {c : Code} {cells slots : Nat} {Q : State → Prop} {D : va_G} {cy : Nat → ClassId} {ad : Nat → Nat} {A : Nat → Prop} (X : zCx p rmX9_spoon s m args c cells slots cX9_spoon 5 RX9 D cy ad A) (post : Int32 → Mm → Ml → Prop) (hret : zRi p l e rmX9_spoon s m args below meth c cells slots Q cX9_spoon D cy ad A .int post) (K27 : Mm → Ml → Int32 → Int32 → Int32 → Prop) (hK27 : ∀ (M : Mm) (L : Ml) (v1 : Int32) (v2 : Int32) (v3 : Int32) (H : Heap) (locs : List Loc) (ls : Array Slot), K27 M L v1 v2 v3 → zWd D cy ad A s H locs M L → lv_has ls 5 [(0, .ref (ad 42)), (1, .int v1), (2, .int v2), (3, .int v3)] → W p l e rmX9_spoon s m args below meth c H locs cells slots Q (F0 m 27 ls [])) : ∀ (j9 : Nat) (M : Mm) (L : Ml) (v1 : Int32) (v2 : Int32) (v3 : Int32) (v4 : Int32) (H : Heap) (locs : List Loc) (ls : Array Slot), wlX9_spoon_35 post K27 j9 (M, L, v1, v2, v3, v4) → zWd D cy ad A s H locs M L → lv_has ls 5 [(0, .ref (ad 42)), (1, .int v1), (2, .int v2), (3, .int v3), (4, .int v4)] → W p l e rmX9_spoon s m args below meth c H locs cells slots Q (F0 m 35 ls []) := by
  have hx := X.1.1; have hb0 := X.1.2.1; have hts := X.1.2.2.2.2
  intro j9
  induction j9 with
  | zero => intro M L v1 v2 v3 v4 H locs ls hw; exact hw.elim
  | succ j9 ih =>
    obtain ⟨K35, hKe⟩ : ∃ K : Mm → Ml → Int32 → Int32 → Int32 → Int32 → Prop, K = fun M L v1 v2 v3 v4 => wlX9_spoon_35 post K27 j9 (M, L, v1, v2, v3, v4) := ⟨_, rfl⟩
    have hK35 : ∀ (M : Mm) (L : Ml) (v1 : Int32) (v2 : Int32) (v3 : Int32) (v4 : Int32) (H : Heap) (locs : List Loc) (ls : Array Slot), K35 M L v1 v2 v3 v4 → zWd D cy ad A s H locs M L → lv_has ls 5 [(0, .ref (ad 42)), (1, .int v1), (2, .int v2), (3, .int v3), (4, .int v4)] → W p l e rmX9_spoon s m args below meth c H locs cells slots Q (F0 m 35 ls []) := by intro M L v1 v2 v3 v4 H locs ls hw; rw [hKe] at hw; exact ih M L v1 v2 v3 v4 H locs ls hw
    intro M L v1 v2 v3 v4 H locs ls hw hW hl
    have hw : wpX9_spoon_35 post K27 K35 M L v1 v2 v3 v4 := by rw [hKe]; exact hw
    clear ih
    unfold wpX9_spoon_35 at hw
    refine lv_iload hx hb0 dX9_spoon_35 (lv_at hl 4 rfl) ?_
    refine lv_iconst (v := (4 : Int32)) hx hb0 dX9_spoon_37 (by decide) ?_
    refine lv_icmp_ge (tgt := 65) hx hb0 dX9_spoon_38 (by decide) (fun c_38 => ?_) (fun c_38 => ?_)
    · replace hw := hw.1 c_38
      obtain ⟨a_65, e_65⟩ : ∃ y : Int32, y = v3 + (1 : Int32) := ⟨_, rfl⟩
      replace hw := hw a_65 e_65
      refine lv_iinc (v := a_65) (lv' := [(3, .int a_65), (0, .ref (ad 42)), (1, .int v1), (2, .int v2), (4, .int v4)]) hx hb0 dX9_spoon_65 hl (k := 3) rfl (by rw [e_65]; rfl) (by decide) rfl (fun ls hl => ?_)
      refine lv_goto (tgt := 27) hx hb0 dX9_spoon_68 (by decide) ?_
      exact hK27 M L v1 v2 a_65 _ _ ls hw hW (lv_sub hl [1, 2, 3, 0] rfl)
    · replace hw := hw.2 c_38
      refine lv_aload_n hx hb0 dX9_spoon_41 rfl (lv_at hl 0 rfl) ?_
      refine z_getR (k2 := 64) X hW zC7 zR_42_30 (by decide) rfl zl_X9_75 dX9_spoon_42 ?_
      refine lv_iconst (v := (4 : Int32)) hx hb0 dX9_spoon_45 (by decide) ?_
      refine lv_iload_n hx hb0 dX9_spoon_46 rfl (lv_at hl 3 rfl) ?_
      refine lv_imul hx hb0 dX9_spoon_47 ?_
      refine lv_iload hx hb0 dX9_spoon_48 (lv_at hl 4 rfl) ?_
      refine lv_iadd hx hb0 dX9_spoon_50 ?_
      refine lv_aload_n hx hb0 dX9_spoon_51 rfl (lv_at hl 0 rfl) ?_
      refine lv_iload_n hx hb0 dX9_spoon_52 rfl (lv_at hl 3 rfl) ?_
      refine lv_iload hx hb0 dX9_spoon_53 (lv_at hl 4 rfl) ?_
      refine z_Vi X zO_42 zC7 zc_X9_bestTake zs_X9_bestTake zl_X9_273 rfl ⟨rfl, rfl⟩ ⟨Nat.le_of_ble_eq_true rfl, Nat.le_of_ble_eq_true rfl⟩ (kX9_bestTake l D cy ad X.2.2.2.1 v3 v4) hW hw hl.1 rfl rfl (Nat.le_of_ble_eq_true rfl) dX9_spoon_55 (fun r_55 M_55 L_55 H_55 locs_55 hw hW => ?_)
      obtain ⟨g_58, hw⟩ := hw
      refine z_iast X hW zI_64 g_58 dX9_spoon_58 (fun M_58 H_58 locs_58 e_58 hW => ?_)
      replace hw := hw M_58 e_58
      obtain ⟨a_59, e_59⟩ : ∃ y : Int32, y = v4 + (1 : Int32) := ⟨_, rfl⟩
      replace hw := hw a_59 e_59
      refine lv_iinc (v := a_59) (lv' := [(4, .int a_59), (0, .ref (ad 42)), (1, .int v1), (2, .int v2), (3, .int v3)]) hx hb0 dX9_spoon_59 hl (k := 4) rfl (by rw [e_59]; rfl) (by decide) rfl (fun ls hl => ?_)
      refine lv_goto (tgt := 35) hx hb0 dX9_spoon_62 (by decide) ?_
      exact hK35 M_58 L_55 v1 v2 v3 a_59 _ _ ls hw hW (lv_sub hl [1, 2, 3, 4, 0] rfl)
set_option maxRecDepth 20000 in
set_option maxHeartbeats 4000000 in
theorem mX9_spoon_106 {p : Program} {l : Launch} {e : Env} {s : State} {m : MethodId} {args : Array Value} {below : List Frame} {meth : Method} {c : Code} {cells slots : Nat} {Q : State → Prop} {D : va_G} {cy : Nat → ClassId} {ad : Nat → Nat} {A : Nat → Prop} (X : zCx p rmX9_spoon s m args c cells slots cX9_spoon 5 RX9 D cy ad A) (post : Int32 → Mm → Ml → Prop) (hret : zRi p l e rmX9_spoon s m args below meth c cells slots Q cX9_spoon D cy ad A .int post) : ∀ (M : Mm) (L : Ml) (s0 : Int32) (H : Heap) (locs : List Loc) (ls : Array Slot), wpX9_spoon_106 post M L s0 → zWd D cy ad A s H locs M L → lv_has ls 5 [] → W p l e rmX9_spoon s m args below meth c H locs cells slots Q (F0 m 106 ls [.int s0]) := by
  have hx := X.1.1; have hb0 := X.1.2.1; have hts := X.1.2.2.2.2
  intro M L s0 H locs ls hw hW hl
  unfold wpX9_spoon_106 at hw
  exact hret _ ls _ _ s0 M L dX9_spoon_106 rfl hw hW
set_option maxRecDepth 20000 in
set_option maxHeartbeats 4000000 in
theorem mX9_spoon_27 {p : Program} {l : Launch} {e : Env} {s : State} {m : MethodId} {args : Array Value} {below : List Frame} {meth : Method} {c : Code} {cells slots : Nat} {Q : State → Prop} {D : va_G} {cy : Nat → ClassId} {ad : Nat → Nat} {A : Nat → Prop} (X : zCx p rmX9_spoon s m args c cells slots cX9_spoon 5 RX9 D cy ad A) (post : Int32 → Mm → Ml → Prop) (hret : zRi p l e rmX9_spoon s m args below meth c cells slots Q cX9_spoon D cy ad A .int post) : ∀ (j9 : Nat) (M : Mm) (L : Ml) (v1 : Int32) (v2 : Int32) (v3 : Int32) (H : Heap) (locs : List Loc) (ls : Array Slot), wlX9_spoon_27 post j9 (M, L, v1, v2, v3) → zWd D cy ad A s H locs M L → lv_has ls 5 [(0, .ref (ad 42)), (1, .int v1), (2, .int v2), (3, .int v3)] → W p l e rmX9_spoon s m args below meth c H locs cells slots Q (F0 m 27 ls []) := by
  have hx := X.1.1; have hb0 := X.1.2.1; have hts := X.1.2.2.2.2
  intro j9
  induction j9 with
  | zero => intro M L v1 v2 v3 H locs ls hw; exact hw.elim
  | succ j9 ih =>
    obtain ⟨K27, hKe⟩ : ∃ K : Mm → Ml → Int32 → Int32 → Int32 → Prop, K = fun M L v1 v2 v3 => wlX9_spoon_27 post j9 (M, L, v1, v2, v3) := ⟨_, rfl⟩
    have hK27 : ∀ (M : Mm) (L : Ml) (v1 : Int32) (v2 : Int32) (v3 : Int32) (H : Heap) (locs : List Loc) (ls : Array Slot), K27 M L v1 v2 v3 → zWd D cy ad A s H locs M L → lv_has ls 5 [(0, .ref (ad 42)), (1, .int v1), (2, .int v2), (3, .int v3)] → W p l e rmX9_spoon s m args below meth c H locs cells slots Q (F0 m 27 ls []) := by intro M L v1 v2 v3 H locs ls hw; rw [hKe] at hw; exact ih M L v1 v2 v3 H locs ls hw
    intro M L v1 v2 v3 H locs ls hw hW hl
    have hw : wpX9_spoon_27 post K27 M L v1 v2 v3 := by rw [hKe]; exact hw
    clear ih
    unfold wpX9_spoon_27 at hw
    refine lv_iload_n hx hb0 dX9_spoon_27 rfl (lv_at hl 3 rfl) ?_
    refine lv_iload_n hx hb0 dX9_spoon_28 rfl (lv_at hl 1 rfl) ?_
    refine lv_icmp_gt (tgt := 71) hx hb0 dX9_spoon_29 (by decide) (fun c_29 => ?_) (fun c_29 => ?_)
    · replace hw := hw.1 c_29
      refine lv_aload_n hx hb0 dX9_spoon_71 rfl (lv_at hl 0 rfl) ?_
      refine z_getR (k2 := 64) X hW zC7 zR_42_30 (by decide) rfl zl_X9_75 dX9_spoon_72 ?_
      refine lv_iconst (v := (4 : Int32)) hx hb0 dX9_spoon_75 (by decide) ?_
      refine lv_iload_n hx hb0 dX9_spoon_76 rfl (lv_at hl 1 rfl) ?_
      refine lv_imul hx hb0 dX9_spoon_77 ?_
      obtain ⟨g_78, hw⟩ := hw
      refine z_iald X hW zI_64 g_78 dX9_spoon_78 ?_
      refine lv_topi (fun a_79 e_79 => ?_)
      replace hw := hw a_79 e_79
      refine lv_istore_n (lv' := [(3, .int a_79), (0, .ref (ad 42)), (1, .int v1), (2, .int v2)]) hx hb0 dX9_spoon_79 rfl hl (by decide) rfl (fun ls hl => ?_)
      refine lv_iload_n hx hb0 dX9_spoon_80 rfl (lv_at hl 3 rfl) ?_
      refine lv_if_ne (tgt := 96) hx hb0 dX9_spoon_81 (by decide) (fun c_81 => ?_) (fun c_81 => ?_)
      · replace hw := hw.1 c_81
        refine lv_iload_n hx hb0 dX9_spoon_96 rfl (lv_at hl 0 rfl) ?_
        refine lv_if_le (tgt := 104) hx hb0 dX9_spoon_97 (by decide) (fun c_97 => ?_) (fun c_97 => ?_)
        · replace hw := hw.1 c_97
          refine lv_bipush (v := (-6 : Int32)) hx hb0 dX9_spoon_104 (by decide) ?_
          exact mX9_spoon_106 X post hret M L (-6 : Int32) _ _ ls hw hW (lv_sub hl [] rfl)
        · replace hw := hw.2 c_97
          refine lv_iload_n hx hb0 dX9_spoon_100 rfl (lv_at hl 0 rfl) ?_
          refine lv_goto (tgt := 106) hx hb0 dX9_spoon_101 (by decide) ?_
          exact mX9_spoon_106 X post hret M L a_79 _ _ ls hw hW (lv_sub hl [] rfl)
      · replace hw := hw.2 c_81
        refine lv_iload_n hx hb0 dX9_spoon_84 rfl (lv_at hl 0 rfl) ?_
        refine lv_if_le (tgt := 92) hx hb0 dX9_spoon_85 (by decide) (fun c_85 => ?_) (fun c_85 => ?_)
        · replace hw := hw.1 c_85
          refine lv_iconst (v := (0 : Int32)) hx hb0 dX9_spoon_92 (by decide) ?_
          refine lv_goto (tgt := 106) hx hb0 dX9_spoon_93 (by decide) ?_
          exact mX9_spoon_106 X post hret M L (0 : Int32) _ _ ls hw hW (lv_sub hl [] rfl)
        · replace hw := hw.2 c_85
          refine lv_iconst (v := (1 : Int32)) hx hb0 dX9_spoon_88 (by decide) ?_
          refine lv_goto (tgt := 106) hx hb0 dX9_spoon_89 (by decide) ?_
          exact mX9_spoon_106 X post hret M L (1 : Int32) _ _ ls hw hW (lv_sub hl [] rfl)
    · replace hw := hw.2 c_29
      refine lv_iconst (v := (0 : Int32)) hx hb0 dX9_spoon_32 (by decide) ?_
      refine lv_istore (lv' := [(4, .int (0 : Int32)), (0, .ref (ad 42)), (1, .int v1), (2, .int v2), (3, .int v3)]) hx hb0 dX9_spoon_33 hl (by decide) rfl (fun ls hl => ?_)
      obtain ⟨n_35, hw⟩ := hw
      exact mX9_spoon_35 X post hret K27 hK27 n_35 M L v1 v2 v3 (0 : Int32) _ _ ls hw hW (lv_sub hl [1, 2, 3, 4, 0] rfl)
set_option maxRecDepth 20000 in
set_option maxHeartbeats 4000000 in
theorem mX9_spoon {p : Program} {l : Launch} {e : Env} {s : State} {m : MethodId} {args : Array Value} {below : List Frame} {meth : Method} {c : Code} {cells slots : Nat} {Q : State → Prop} {D : va_G} {cy : Nat → ClassId} {ad : Nat → Nat} {A : Nat → Prop} (X : zCx p rmX9_spoon s m args c cells slots cX9_spoon 5 RX9 D cy ad A) (post : Int32 → Mm → Ml → Prop) (hret : zRi p l e rmX9_spoon s m args below meth c cells slots Q cX9_spoon D cy ad A .int post) : ∀ (M : Mm) (L : Ml) (x1 : Int32) (x2 : Int32) (H : Heap) (locs : List Loc) (ls : Array Slot), wpX9_spoon x1 x2 M L post → zWd D cy ad A s H locs M L → lv_has ls 5 [(0, .ref (ad 42)), (1, .int x1), (2, .int x2)] → W p l e rmX9_spoon s m args below meth c H locs cells slots Q (F0 m 0 ls []) := by
  have hx := X.1.1; have hb0 := X.1.2.1; have hts := X.1.2.2.2.2
  intro M L x1 x2 H locs ls hw hW hl
  unfold wpX9_spoon at hw
  refine lv_iload_n hx hb0 dX9_spoon_0 rfl (lv_at hl 1 rfl) ?_
  refine lv_i2l hx hb0 dX9_spoon_1 rfl ?_
  refine lv_lconst (v := (0 : Int64)) hx hb0 dX9_spoon_2 (by decide) ?_
  refine lv_ldc2 (v := (60 : Int64)) hx hb0 X.1.2.2.2.1 (hts _ zk_X9_271) dX9_spoon_3 ?_
  refine z_Si X zc_X9_in zt_X9_in zl_X9_86 rfl ⟨rfl, rfl⟩ ⟨Nat.le_of_ble_eq_true rfl, Nat.le_of_ble_eq_true rfl⟩ (kX9_in l D cy ad X.2.2.2.1 (x1.toInt64) (0 : Int64) (60 : Int64)) hW hw hl.1 rfl rfl (Nat.le_of_ble_eq_true rfl) dX9_spoon_6 (fun r_6 M_6 L_6 H_6 locs_6 hw hW => ?_)
  refine lv_if_eq (tgt := 22) hx hb0 dX9_spoon_9 (by decide) (fun c_9 => ?_) (fun c_9 => ?_)
  · replace hw := hw.1 c_9
    exact mX9_spoon_22 X post hret M_6 L_6 _ _ ls hw hW (lv_sub hl [] rfl)
  · replace hw := hw.2 c_9
    refine lv_iload_n hx hb0 dX9_spoon_12 rfl (lv_at hl 2 rfl) ?_
    refine lv_i2l hx hb0 dX9_spoon_13 rfl ?_
    refine lv_lconst (v := (0 : Int64)) hx hb0 dX9_spoon_14 (by decide) ?_
    refine lv_lconst (v := (1 : Int64)) hx hb0 dX9_spoon_15 (by decide) ?_
    refine z_Si X zc_X9_in zt_X9_in zl_X9_86 rfl ⟨rfl, rfl⟩ ⟨Nat.le_of_ble_eq_true rfl, Nat.le_of_ble_eq_true rfl⟩ (kX9_in l D cy ad X.2.2.2.1 (x2.toInt64) (0 : Int64) (1 : Int64)) hW hw hl.1 rfl rfl (Nat.le_of_ble_eq_true rfl) dX9_spoon_16 (fun r_16 M_16 L_16 H_16 locs_16 hw hW => ?_)
    refine lv_if_ne (tgt := 25) hx hb0 dX9_spoon_19 (by decide) (fun c_19 => ?_) (fun c_19 => ?_)
    · replace hw := hw.1 c_19
      refine lv_iconst (v := (0 : Int32)) hx hb0 dX9_spoon_25 (by decide) ?_
      refine lv_istore_n (lv' := [(3, .int (0 : Int32)), (0, .ref (ad 42)), (1, .int x1), (2, .int x2)]) hx hb0 dX9_spoon_26 rfl hl (by decide) rfl (fun ls hl => ?_)
      obtain ⟨n_27, hw⟩ := hw
      exact mX9_spoon_27 X post hret n_27 M_16 L_16 x1 x2 (0 : Int32) _ _ ls hw hW (lv_sub hl [1, 2, 3, 0] rfl)
    · replace hw := hw.2 c_19
      exact mX9_spoon_22 X post hret M_16 L_16 _ _ ls hw hW (lv_sub hl [] rfl)
theorem kX9_spoon (l : Launch) (D : va_G) (cy : Nat → ClassId) (ad : Nat → Nat) (hi : zInj ad) (x1 : Int32) (x2 : Int32) : zMi l yX9_spoon (.code yX9_spoon cX9_spoon 5 (some .int) :: zG) rmX9_spoon D cy ad [.ref (ad 42), .int x1, .int x2] (wpX9_spoon x1 x2) :=
  zMi_of (by decide +kernel) (Nat.le_of_ble_eq_true rfl) hi (fun X M L post _ hret ls hl hw hW => mX9_spoon X post hret M L x1 x2 _ _ ls hw hW hl)
abbrev rmX9_year : Room := { frames := 5, cells := 0, slots := 0, locals := 111 }
set_option maxRecDepth 20000 in
set_option maxHeartbeats 4000000 in
theorem mX9_year_36 {p : Program} {l : Launch} {e : Env} {s : State} {m : MethodId} {args : Array Value} {below : List Frame} {meth : Method} {c : Code} {cells slots : Nat} {Q : State → Prop} {D : va_G} {cy : Nat → ClassId} {ad : Nat → Nat} {A : Nat → Prop} (X : zCx p rmX9_year s m args c cells slots cX9_year 7 RX9 D cy ad A) (post : Int32 → Mm → Ml → Prop) (hret : zRi p l e rmX9_year s m args below meth c cells slots Q cX9_year D cy ad A .int post) : ∀ (M : Mm) (L : Ml) (H : Heap) (locs : List Loc) (ls : Array Slot), wpX9_year_36 post M L → zWd D cy ad A s H locs M L → lv_has ls 7 [] → W p l e rmX9_year s m args below meth c H locs cells slots Q (F0 m 36 ls []) := by
  have hx := X.1.1; have hb0 := X.1.2.1; have hts := X.1.2.2.2.2
  intro M L H locs ls hw hW hl
  unfold wpX9_year_36 at hw
  refine lv_bipush (v := (-2 : Int32)) hx hb0 dX9_year_36 (by decide) ?_
  exact hret _ ls _ _ (-2 : Int32) M L dX9_year_38 rfl hw hW
set_option maxRecDepth 20000 in
set_option maxHeartbeats 4000000 in
theorem mX9_year_108 {p : Program} {l : Launch} {e : Env} {s : State} {m : MethodId} {args : Array Value} {below : List Frame} {meth : Method} {c : Code} {cells slots : Nat} {Q : State → Prop} {D : va_G} {cy : Nat → ClassId} {ad : Nat → Nat} {A : Nat → Prop} (X : zCx p rmX9_year s m args c cells slots cX9_year 7 RX9 D cy ad A) (post : Int32 → Mm → Ml → Prop) (hret : zRi p l e rmX9_year s m args below meth c cells slots Q cX9_year D cy ad A .int post) (K49 : Mm → Ml → Int32 → Int32 → Int32 → Int32 → Prop) (hK49 : ∀ (M : Mm) (L : Ml) (v2 : Int32) (v3 : Int32) (v4 : Int32) (v5 : Int32) (H : Heap) (locs : List Loc) (ls : Array Slot), K49 M L v2 v3 v4 v5 → zWd D cy ad A s H locs M L → lv_has ls 7 [(0, .ref (ad 42)), (2, .int v2), (3, .int v3), (4, .int v4), (5, .int v5)] → W p l e rmX9_year s m args below meth c H locs cells slots Q (F0 m 49 ls [])) : ∀ (M : Mm) (L : Ml) (v2 : Int32) (v3 : Int32) (v4 : Int32) (v5 : Int32) (H : Heap) (locs : List Loc) (ls : Array Slot), wpX9_year_108 post K49 M L v2 v3 v4 v5 → zWd D cy ad A s H locs M L → lv_has ls 7 [(0, .ref (ad 42)), (2, .int v2), (3, .int v3), (4, .int v4), (5, .int v5)] → W p l e rmX9_year s m args below meth c H locs cells slots Q (F0 m 108 ls []) := by
  have hx := X.1.1; have hb0 := X.1.2.1; have hts := X.1.2.2.2.2
  intro M L v2 v3 v4 v5 H locs ls hw hW hl
  unfold wpX9_year_108 at hw
  obtain ⟨a_108, e_108⟩ : ∃ y : Int32, y = v5 + (1 : Int32) := ⟨_, rfl⟩
  replace hw := hw a_108 e_108
  refine lv_iinc (v := a_108) (lv' := [(5, .int a_108), (0, .ref (ad 42)), (2, .int v2), (3, .int v3), (4, .int v4)]) hx hb0 dX9_year_108 hl (k := 4) rfl (by rw [e_108]; rfl) (by decide) rfl (fun ls hl => ?_)
  refine lv_goto (tgt := 49) hx hb0 dX9_year_111 (by decide) ?_
  exact hK49 M L v2 v3 v4 a_108 _ _ ls hw hW (lv_sub hl [1, 2, 3, 4, 0] rfl)
set_option maxRecDepth 20000 in
set_option maxHeartbeats 4000000 in
theorem mX9_year_147 {p : Program} {l : Launch} {e : Env} {s : State} {m : MethodId} {args : Array Value} {below : List Frame} {meth : Method} {c : Code} {cells slots : Nat} {Q : State → Prop} {D : va_G} {cy : Nat → ClassId} {ad : Nat → Nat} {A : Nat → Prop} (X : zCx p rmX9_year s m args c cells slots cX9_year 7 RX9 D cy ad A) (post : Int32 → Mm → Ml → Prop) (hret : zRi p l e rmX9_year s m args below meth c cells slots Q cX9_year D cy ad A .int post) : ∀ (M : Mm) (L : Ml) (s0 : Int32) (H : Heap) (locs : List Loc) (ls : Array Slot), wpX9_year_147 post M L s0 → zWd D cy ad A s H locs M L → lv_has ls 7 [(0, .ref (ad 42))] → W p l e rmX9_year s m args below meth c H locs cells slots Q (F0 m 147 ls [.int s0]) := by
  have hx := X.1.1; have hb0 := X.1.2.1; have hts := X.1.2.2.2.2
  intro M L s0 H locs ls hw hW hl
  unfold wpX9_year_147 at hw
  refine lv_istore (lv' := [(5, .int s0), (0, .ref (ad 42))]) hx hb0 dX9_year_147 hl (by decide) rfl (fun ls hl => ?_)
  refine lv_aload_n hx hb0 dX9_year_149 rfl (lv_at hl 1 rfl) ?_
  refine lv_iload hx hb0 dX9_year_150 (lv_at hl 0 rfl) ?_
  refine z_Vi X zO_42 zC7 zc_X9_back zs_X9_back zl_X9_199 rfl ⟨rfl, rfl⟩ ⟨Nat.le_of_ble_eq_true rfl, Nat.le_of_ble_eq_true rfl⟩ (kX9_back l D cy ad X.2.2.2.1 s0) hW hw hl.1 rfl rfl (Nat.le_of_ble_eq_true rfl) dX9_year_152 (fun r_152 M_152 L_152 H_152 locs_152 hw hW => ?_)
  exact hret _ ls _ _ r_152 M_152 L_152 dX9_year_155 rfl hw hW
set_option maxRecDepth 20000 in
set_option maxHeartbeats 4000000 in
theorem mX9_year_49 {p : Program} {l : Launch} {e : Env} {s : State} {m : MethodId} {args : Array Value} {below : List Frame} {meth : Method} {c : Code} {cells slots : Nat} {Q : State → Prop} {D : va_G} {cy : Nat → ClassId} {ad : Nat → Nat} {A : Nat → Prop} (X : zCx p rmX9_year s m args c cells slots cX9_year 7 RX9 D cy ad A) (post : Int32 → Mm → Ml → Prop) (hret : zRi p l e rmX9_year s m args below meth c cells slots Q cX9_year D cy ad A .int post) : ∀ (j9 : Nat) (M : Mm) (L : Ml) (v2 : Int32) (v3 : Int32) (v4 : Int32) (v5 : Int32) (H : Heap) (locs : List Loc) (ls : Array Slot), wlX9_year_49 post j9 (M, L, v2, v3, v4, v5) → zWd D cy ad A s H locs M L → lv_has ls 7 [(0, .ref (ad 42)), (2, .int v2), (3, .int v3), (4, .int v4), (5, .int v5)] → W p l e rmX9_year s m args below meth c H locs cells slots Q (F0 m 49 ls []) := by
  have hx := X.1.1; have hb0 := X.1.2.1; have hts := X.1.2.2.2.2
  intro j9
  induction j9 with
  | zero => intro M L v2 v3 v4 v5 H locs ls hw; exact hw.elim
  | succ j9 ih =>
    obtain ⟨K49, hKe⟩ : ∃ K : Mm → Ml → Int32 → Int32 → Int32 → Int32 → Prop, K = fun M L v2 v3 v4 v5 => wlX9_year_49 post j9 (M, L, v2, v3, v4, v5) := ⟨_, rfl⟩
    have hK49 : ∀ (M : Mm) (L : Ml) (v2 : Int32) (v3 : Int32) (v4 : Int32) (v5 : Int32) (H : Heap) (locs : List Loc) (ls : Array Slot), K49 M L v2 v3 v4 v5 → zWd D cy ad A s H locs M L → lv_has ls 7 [(0, .ref (ad 42)), (2, .int v2), (3, .int v3), (4, .int v4), (5, .int v5)] → W p l e rmX9_year s m args below meth c H locs cells slots Q (F0 m 49 ls []) := by intro M L v2 v3 v4 v5 H locs ls hw; rw [hKe] at hw; exact ih M L v2 v3 v4 v5 H locs ls hw
    intro M L v2 v3 v4 v5 H locs ls hw hW hl
    have hw : wpX9_year_49 post K49 M L v2 v3 v4 v5 := by rw [hKe]; exact hw
    clear ih
    unfold wpX9_year_49 at hw
    refine lv_iload hx hb0 dX9_year_49 (lv_at hl 4 rfl) ?_
    refine lv_iload_n hx hb0 dX9_year_51 rfl (lv_at hl 1 rfl) ?_
    refine lv_icmp_ge (tgt := 114) hx hb0 dX9_year_52 (by decide) (fun c_52 => ?_) (fun c_52 => ?_)
    · replace hw := hw.1 c_52
      refine lv_iload_n hx hb0 dX9_year_114 rfl (lv_at hl 2 rfl) ?_
      refine lv_if_ne (tgt := 128) hx hb0 dX9_year_115 (by decide) (fun c_115 => ?_) (fun c_115 => ?_)
      · replace hw := hw.1 c_115
        refine lv_iload_n hx hb0 dX9_year_128 rfl (lv_at hl 2 rfl) ?_
        refine lv_iconst (v := (1 : Int32)) hx hb0 dX9_year_129 (by decide) ?_
        refine lv_icmp_ne (tgt := 143) hx hb0 dX9_year_130 (by decide) (fun c_130 => ?_) (fun c_130 => ?_)
        · replace hw := hw.1 c_130
          refine lv_aload_n hx hb0 dX9_year_143 rfl (lv_at hl 0 rfl) ?_
          refine z_Vi X zO_42 zC7 zc_X9_aboveMany zs_X9_aboveMany zl_X9_140 rfl ⟨rfl, rfl⟩ ⟨Nat.le_of_ble_eq_true rfl, Nat.le_of_ble_eq_true rfl⟩ (kX9_aboveMany l D cy ad X.2.2.2.1) hW hw hl.1 rfl rfl (Nat.le_of_ble_eq_true rfl) dX9_year_144 (fun r_144 M_144 L_144 H_144 locs_144 hw hW => ?_)
          exact mX9_year_147 X post hret M_144 L_144 r_144 _ _ ls hw hW (lv_sub hl [0] rfl)
        · replace hw := hw.2 c_130
          refine lv_aload_n hx hb0 dX9_year_133 rfl (lv_at hl 0 rfl) ?_
          refine z_Vi X zO_42 zC7 zc_X9_riverNow zs_X9_riverNow zl_X9_213 rfl ⟨rfl, rfl⟩ ⟨Nat.le_of_ble_eq_true rfl, Nat.le_of_ble_eq_true rfl⟩ (kX9_riverNow l D cy ad X.2.2.2.1) hW hw hl.1 rfl rfl (Nat.le_of_ble_eq_true rfl) dX9_year_134 (fun r_134 M_134 L_134 H_134 locs_134 hw hW => ?_)
          refine z_Si X zc_X9_bitsOf zt_X9_bitsOf zl_X9_109 rfl ⟨rfl, rfl⟩ ⟨Nat.le_of_ble_eq_true rfl, Nat.le_of_ble_eq_true rfl⟩ (kX9_bitsOf l D cy ad X.2.2.2.1 r_134) hW hw hl.1 rfl rfl (Nat.le_of_ble_eq_true rfl) dX9_year_137 (fun r_137 M_137 L_137 H_137 locs_137 hw hW => ?_)
          refine lv_goto (tgt := 147) hx hb0 dX9_year_140 (by decide) ?_
          exact mX9_year_147 X post hret M_137 L_137 r_137 _ _ ls hw hW (lv_sub hl [0] rfl)
      · replace hw := hw.2 c_115
        refine lv_aload_n hx hb0 dX9_year_118 rfl (lv_at hl 0 rfl) ?_
        refine z_Vi X zO_42 zC7 zc_X9_postedNow zs_X9_postedNow zl_X9_210 rfl ⟨rfl, rfl⟩ ⟨Nat.le_of_ble_eq_true rfl, Nat.le_of_ble_eq_true rfl⟩ (kX9_postedNow l D cy ad X.2.2.2.1) hW hw hl.1 rfl rfl (Nat.le_of_ble_eq_true rfl) dX9_year_119 (fun r_119 M_119 L_119 H_119 locs_119 hw hW => ?_)
        refine z_Si X zc_X9_bitsOf zt_X9_bitsOf zl_X9_109 rfl ⟨rfl, rfl⟩ ⟨Nat.le_of_ble_eq_true rfl, Nat.le_of_ble_eq_true rfl⟩ (kX9_bitsOf l D cy ad X.2.2.2.1 r_119) hW hw hl.1 rfl rfl (Nat.le_of_ble_eq_true rfl) dX9_year_122 (fun r_122 M_122 L_122 H_122 locs_122 hw hW => ?_)
        refine lv_goto (tgt := 147) hx hb0 dX9_year_125 (by decide) ?_
        exact mX9_year_147 X post hret M_122 L_122 r_122 _ _ ls hw hW (lv_sub hl [0] rfl)
    · replace hw := hw.2 c_52
      refine lv_ldc2 (v := (75 : Int64)) hx hb0 X.1.2.2.2.1 (hts _ zk_X9_280) dX9_year_55 ?_
      refine lv_iload hx hb0 dX9_year_58 (lv_at hl 3 rfl) ?_
      refine lv_i2l hx hb0 dX9_year_60 rfl ?_
      refine lv_lmul hx hb0 dX9_year_61 ?_
      refine lv_ldc2 (v := (74 : Int64)) hx hb0 X.1.2.2.2.1 (hts _ zk_X9_282) dX9_year_62 ?_
      refine lv_ladd hx hb0 dX9_year_65 ?_
      refine lv_ldc2 (v := (65537 : Int64)) hx hb0 X.1.2.2.2.1 (hts _ zk_X9_284) dX9_year_66 ?_
      refine lv_lrem hx hb0 dX9_year_69 (by decide) ?_
      refine lv_l2i hx hb0 dX9_year_70 rfl ?_
      refine lv_topi (fun a_71 e_71 => ?_)
      replace hw := hw a_71 e_71
      refine lv_istore (lv' := [(4, .int a_71), (0, .ref (ad 42)), (2, .int v2), (3, .int v3), (5, .int v5)]) hx hb0 dX9_year_71 hl (by decide) rfl (fun ls hl => ?_)
      refine lv_iload hx hb0 dX9_year_73 (lv_at hl 0 rfl) ?_
      refine lv_bipush (v := (8 : Int32)) hx hb0 dX9_year_75 (by decide) ?_
      refine lv_idiv hx hb0 dX9_year_77 (by decide) ?_
      refine lv_bipush (v := (6 : Int32)) hx hb0 dX9_year_78 (by decide) ?_
      refine lv_irem hx hb0 dX9_year_80 (by decide) ?_
      refine lv_topi (fun a_81 e_81 => ?_)
      replace hw := hw a_81 e_81
      refine lv_istore (lv' := [(6, .int a_81), (4, .int a_71), (0, .ref (ad 42)), (2, .int v2), (3, .int v3), (5, .int v5)]) hx hb0 dX9_year_81 hl (by decide) rfl (fun ls hl => ?_)
      refine lv_aload_n hx hb0 dX9_year_83 rfl (lv_at hl 2 rfl) ?_
      refine lv_iload hx hb0 dX9_year_84 (lv_at hl 1 rfl) ?_
      refine lv_bipush (v := (8 : Int32)) hx hb0 dX9_year_86 (by decide) ?_
      refine lv_irem hx hb0 dX9_year_88 (by decide) ?_
      refine lv_iload hx hb0 dX9_year_89 (lv_at hl 0 rfl) ?_
      refine z_Vi X zO_42 zC7 zc_X9_whyNot zs_X9_whyNot zl_X9_179 rfl ⟨rfl, rfl⟩ ⟨Nat.le_of_ble_eq_true rfl, Nat.le_of_ble_eq_true rfl⟩ (kX9_whyNot l D cy ad X.2.2.2.1 (a_71 - a_71 / (8 : Int32) * (8 : Int32)) a_81) hW hw hl.1 rfl rfl (Nat.le_of_ble_eq_true rfl) dX9_year_91 (fun r_91 M_91 L_91 H_91 locs_91 hw hW => ?_)
      refine lv_if_ne (tgt := 108) hx hb0 dX9_year_94 (by decide) (fun c_94 => ?_) (fun c_94 => ?_)
      · replace hw := hw.1 c_94
        exact mX9_year_108 X post hret K49 hK49 M_91 L_91 v2 v3 a_71 v5 _ _ ls hw hW (lv_sub hl [2, 3, 4, 1, 5] rfl)
      · replace hw := hw.2 c_94
        refine lv_aload_n hx hb0 dX9_year_97 rfl (lv_at hl 2 rfl) ?_
        refine lv_iload hx hb0 dX9_year_98 (lv_at hl 1 rfl) ?_
        refine lv_bipush (v := (8 : Int32)) hx hb0 dX9_year_100 (by decide) ?_
        refine lv_irem hx hb0 dX9_year_102 (by decide) ?_
        refine lv_iload hx hb0 dX9_year_103 (lv_at hl 0 rfl) ?_
        refine z_Vv X zO_42 zC7 zc_X9_happen zs_X9_happen zl_X9_182 rfl ⟨rfl, rfl⟩ ⟨Nat.le_of_ble_eq_true rfl, Nat.le_of_ble_eq_true rfl⟩ (kX9_happen l D cy ad X.2.2.2.1 (a_71 - a_71 / (8 : Int32) * (8 : Int32)) a_81) hW hw hl.1 rfl rfl (Nat.le_of_ble_eq_true rfl) dX9_year_105 (fun M_105 L_105 H_105 locs_105 hw hW => ?_)
        exact mX9_year_108 X post hret K49 hK49 M_105 L_105 v2 v3 a_71 v5 _ _ ls hw hW (lv_sub hl [2, 3, 4, 1, 5] rfl)
set_option maxRecDepth 20000 in
set_option maxHeartbeats 4000000 in
theorem mX9_year {p : Program} {l : Launch} {e : Env} {s : State} {m : MethodId} {args : Array Value} {below : List Frame} {meth : Method} {c : Code} {cells slots : Nat} {Q : State → Prop} {D : va_G} {cy : Nat → ClassId} {ad : Nat → Nat} {A : Nat → Prop} (X : zCx p rmX9_year s m args c cells slots cX9_year 7 RX9 D cy ad A) (post : Int32 → Mm → Ml → Prop) (hret : zRi p l e rmX9_year s m args below meth c cells slots Q cX9_year D cy ad A .int post) : ∀ (M : Mm) (L : Ml) (x1 : Int32) (x2 : Int32) (x3 : Int32) (H : Heap) (locs : List Loc) (ls : Array Slot), wpX9_year x1 x2 x3 M L post → zWd D cy ad A s H locs M L → lv_has ls 7 [(0, .ref (ad 42)), (1, .int x1), (2, .int x2), (3, .int x3)] → W p l e rmX9_year s m args below meth c H locs cells slots Q (F0 m 0 ls []) := by
  have hx := X.1.1; have hb0 := X.1.2.1; have hts := X.1.2.2.2.2
  intro M L x1 x2 x3 H locs ls hw hW hl
  unfold wpX9_year at hw
  refine lv_iload_n hx hb0 dX9_year_0 rfl (lv_at hl 1 rfl) ?_
  refine lv_i2l hx hb0 dX9_year_1 rfl ?_
  refine lv_lconst (v := (0 : Int64)) hx hb0 dX9_year_2 (by decide) ?_
  refine lv_ldc2 (v := (9999 : Int64)) hx hb0 X.1.2.2.2.1 (hts _ zk_X9_276) dX9_year_3 ?_
  refine z_Si X zc_X9_in zt_X9_in zl_X9_86 rfl ⟨rfl, rfl⟩ ⟨Nat.le_of_ble_eq_true rfl, Nat.le_of_ble_eq_true rfl⟩ (kX9_in l D cy ad X.2.2.2.1 (x1.toInt64) (0 : Int64) (9999 : Int64)) hW hw hl.1 rfl rfl (Nat.le_of_ble_eq_true rfl) dX9_year_6 (fun r_6 M_6 L_6 H_6 locs_6 hw hW => ?_)
  refine lv_if_eq (tgt := 36) hx hb0 dX9_year_9 (by decide) (fun c_9 => ?_) (fun c_9 => ?_)
  · replace hw := hw.1 c_9
    exact mX9_year_36 X post hret M_6 L_6 _ _ ls hw hW (lv_sub hl [] rfl)
  · replace hw := hw.2 c_9
    refine lv_iload_n hx hb0 dX9_year_12 rfl (lv_at hl 2 rfl) ?_
    refine lv_i2l hx hb0 dX9_year_13 rfl ?_
    refine lv_lconst (v := (1 : Int64)) hx hb0 dX9_year_14 (by decide) ?_
    refine lv_ldc2 (v := (99 : Int64)) hx hb0 X.1.2.2.2.1 (hts _ zk_X9_278) dX9_year_15 ?_
    refine z_Si X zc_X9_in zt_X9_in zl_X9_86 rfl ⟨rfl, rfl⟩ ⟨Nat.le_of_ble_eq_true rfl, Nat.le_of_ble_eq_true rfl⟩ (kX9_in l D cy ad X.2.2.2.1 (x2.toInt64) (1 : Int64) (99 : Int64)) hW hw hl.1 rfl rfl (Nat.le_of_ble_eq_true rfl) dX9_year_18 (fun r_18 M_18 L_18 H_18 locs_18 hw hW => ?_)
    refine lv_if_eq (tgt := 36) hx hb0 dX9_year_21 (by decide) (fun c_21 => ?_) (fun c_21 => ?_)
    · replace hw := hw.1 c_21
      exact mX9_year_36 X post hret M_18 L_18 _ _ ls hw hW (lv_sub hl [] rfl)
    · replace hw := hw.2 c_21
      refine lv_iload_n hx hb0 dX9_year_24 rfl (lv_at hl 3 rfl) ?_
      refine lv_i2l hx hb0 dX9_year_25 rfl ?_
      refine lv_lconst (v := (0 : Int64)) hx hb0 dX9_year_26 (by decide) ?_
      refine lv_ldc2 (v := (2 : Int64)) hx hb0 X.1.2.2.2.1 (hts _ zk_X9_194) dX9_year_27 ?_
      refine z_Si X zc_X9_in zt_X9_in zl_X9_86 rfl ⟨rfl, rfl⟩ ⟨Nat.le_of_ble_eq_true rfl, Nat.le_of_ble_eq_true rfl⟩ (kX9_in l D cy ad X.2.2.2.1 (x3.toInt64) (0 : Int64) (2 : Int64)) hW hw hl.1 rfl rfl (Nat.le_of_ble_eq_true rfl) dX9_year_30 (fun r_30 M_30 L_30 H_30 locs_30 hw hW => ?_)
      refine lv_if_ne (tgt := 39) hx hb0 dX9_year_33 (by decide) (fun c_33 => ?_) (fun c_33 => ?_)
      · replace hw := hw.1 c_33
        refine lv_aload_n hx hb0 dX9_year_39 rfl (lv_at hl 0 rfl) ?_
        refine z_Vv X zO_42 zC7 zc_X9_keepNow zs_X9_keepNow zl_X9_185 rfl ⟨rfl, rfl⟩ ⟨Nat.le_of_ble_eq_true rfl, Nat.le_of_ble_eq_true rfl⟩ (kX9_keepNow l D cy ad X.2.2.2.1) hW hw hl.1 rfl rfl (Nat.le_of_ble_eq_true rfl) dX9_year_40 (fun M_40 L_40 H_40 locs_40 hw hW => ?_)
        refine lv_iload_n hx hb0 dX9_year_43 rfl (lv_at hl 1 rfl) ?_
        refine lv_istore (lv' := [(4, .int x1), (0, .ref (ad 42)), (1, .int x1), (2, .int x2), (3, .int x3)]) hx hb0 dX9_year_44 hl (by decide) rfl (fun ls hl => ?_)
        refine lv_iconst (v := (0 : Int32)) hx hb0 dX9_year_46 (by decide) ?_
        refine lv_istore (lv' := [(5, .int (0 : Int32)), (4, .int x1), (0, .ref (ad 42)), (1, .int x1), (2, .int x2), (3, .int x3)]) hx hb0 dX9_year_47 hl (by decide) rfl (fun ls hl => ?_)
        obtain ⟨n_49, hw⟩ := hw
        exact mX9_year_49 X post hret n_49 M_40 L_40 x2 x3 x1 (0 : Int32) _ _ ls hw hW (lv_sub hl [2, 4, 5, 1, 0] rfl)
      · replace hw := hw.2 c_33
        exact mX9_year_36 X post hret M_30 L_30 _ _ ls hw hW (lv_sub hl [] rfl)
theorem kX9_year (l : Launch) (D : va_G) (cy : Nat → ClassId) (ad : Nat → Nat) (hi : zInj ad) (x1 : Int32) (x2 : Int32) (x3 : Int32) : zMi l yX9_year (.code yX9_year cX9_year 7 (some .int) :: zG) rmX9_year D cy ad [.ref (ad 42), .int x1, .int x2, .int x3] (wpX9_year x1 x2 x3) :=
  zMi_of (by decide +kernel) (Nat.le_of_ble_eq_true rfl) hi (fun X M L post _ hret ls hl hw hW => mX9_year X post hret M L x1 x2 x3 _ _ ls hw hW hl)
abbrev rmX9_pass : Room := { frames := 0, cells := 0, slots := 0, locals := 0 }
set_option maxRecDepth 20000 in
set_option maxHeartbeats 4000000 in
theorem mX9_pass_20 {p : Program} {l : Launch} {e : Env} {s : State} {m : MethodId} {args : Array Value} {below : List Frame} {meth : Method} {c : Code} {cells slots : Nat} {Q : State → Prop} {D : va_G} {cy : Nat → ClassId} {ad : Nat → Nat} {A : Nat → Prop} (X : zCx p rmX9_pass s m args c cells slots cX9_pass 3 RX9 D cy ad A) (post : Int32 → Mm → Ml → Prop) (hret : zRi p l e rmX9_pass s m args below meth c cells slots Q cX9_pass D cy ad A .int post) : ∀ (M : Mm) (L : Ml) (s0 : Int32) (H : Heap) (locs : List Loc) (ls : Array Slot), wpX9_pass_20 post M L s0 → zWd D cy ad A s H locs M L → lv_has ls 3 [(0, .ref (ad 42))] → W p l e rmX9_pass s m args below meth c H locs cells slots Q (F0 m 20 ls [.int s0]) := by
  have hx := X.1.1; have hb0 := X.1.2.1; have hts := X.1.2.2.2.2
  intro M L s0 H locs ls hw hW hl
  unfold wpX9_pass_20 at hw
  refine lv_istore_n (lv' := [(2, .int s0), (0, .ref (ad 42))]) hx hb0 dX9_pass_20 rfl hl (by decide) rfl (fun ls hl => ?_)
  refine lv_aload_n hx hb0 dX9_pass_21 rfl (lv_at hl 1 rfl) ?_
  refine z_getR (k2 := 65) X hW zC7 zR_42_31 (by decide) rfl zl_X9_78 dX9_pass_22 ?_
  refine lv_aload_n hx hb0 dX9_pass_25 rfl (lv_at hl 1 rfl) ?_
  refine z_getI X hW zC7 zF_42_33 (by decide) rfl zl_X9_290 dX9_pass_26 ?_
  refine lv_iload_n hx hb0 dX9_pass_29 rfl (lv_at hl 0 rfl) ?_
  obtain ⟨g_30, hw⟩ := hw
  refine z_iast X hW zI_65 g_30 dX9_pass_30 (fun M_30 H_30 locs_30 e_30 hW => ?_)
  replace hw := hw M_30 e_30
  refine lv_aload_n hx hb0 dX9_pass_31 rfl (lv_at hl 1 rfl) ?_
  refine lv_dup hx hb0 dX9_pass_32 rfl ?_
  refine z_getI X hW zC7 zF_42_33 (by decide) rfl zl_X9_290 dX9_pass_33 ?_
  refine lv_iconst (v := (1 : Int32)) hx hb0 dX9_pass_36 (by decide) ?_
  refine lv_iadd hx hb0 dX9_pass_37 ?_
  refine z_put (ty := .int) X hW zC7 zF_42_33 (by decide) rfl zl_X9_290 rfl (by decide +kernel) rfl rfl dX9_pass_38 (fun M_38 H_38 locs_38 e_38 hW => ?_)
  replace hw := hw M_38 e_38
  refine lv_iload_n hx hb0 dX9_pass_41 rfl (lv_at hl 0 rfl) ?_
  exact hret _ ls _ _ s0 M_38 L dX9_pass_42 rfl hw hW
set_option maxRecDepth 20000 in
set_option maxHeartbeats 4000000 in
theorem mX9_pass {p : Program} {l : Launch} {e : Env} {s : State} {m : MethodId} {args : Array Value} {below : List Frame} {meth : Method} {c : Code} {cells slots : Nat} {Q : State → Prop} {D : va_G} {cy : Nat → ClassId} {ad : Nat → Nat} {A : Nat → Prop} (X : zCx p rmX9_pass s m args c cells slots cX9_pass 3 RX9 D cy ad A) (post : Int32 → Mm → Ml → Prop) (hret : zRi p l e rmX9_pass s m args below meth c cells slots Q cX9_pass D cy ad A .int post) : ∀ (M : Mm) (L : Ml) (x1 : Int32) (H : Heap) (locs : List Loc) (ls : Array Slot), wpX9_pass x1 M L post → zWd D cy ad A s H locs M L → lv_has ls 3 [(0, .ref (ad 42)), (1, .int x1)] → W p l e rmX9_pass s m args below meth c H locs cells slots Q (F0 m 0 ls []) := by
  have hx := X.1.1; have hb0 := X.1.2.1; have hts := X.1.2.2.2.2
  intro M L x1 H locs ls hw hW hl
  unfold wpX9_pass at hw
  refine lv_aload_n hx hb0 dX9_pass_0 rfl (lv_at hl 0 rfl) ?_
  refine z_getI X hW zC7 zF_42_34 (by decide) rfl zl_X9_286 dX9_pass_1 ?_
  refine lv_if_eq (tgt := 11) hx hb0 dX9_pass_4 (by decide) (fun c_4 => ?_) (fun c_4 => ?_)
  · replace hw := hw.1 c_4
    refine lv_aload_n hx hb0 dX9_pass_11 rfl (lv_at hl 0 rfl) ?_
    refine z_getR (k2 := 65) X hW zC7 zR_42_31 (by decide) rfl zl_X9_78 dX9_pass_12 ?_
    refine lv_aload_n hx hb0 dX9_pass_15 rfl (lv_at hl 0 rfl) ?_
    refine z_getI X hW zC7 zF_42_33 (by decide) rfl zl_X9_290 dX9_pass_16 ?_
    obtain ⟨g_19, hw⟩ := hw
    refine z_iald X hW zI_65 g_19 dX9_pass_19 ?_
    exact mX9_pass_20 X post hret M L (M 65 (M 42 33).toNatClampNeg) _ _ ls hw hW (lv_sub hl [0] rfl)
  · replace hw := hw.2 c_4
    refine lv_iload_n hx hb0 dX9_pass_7 rfl (lv_at hl 1 rfl) ?_
    refine lv_goto (tgt := 20) hx hb0 dX9_pass_8 (by decide) ?_
    exact mX9_pass_20 X post hret M L x1 _ _ ls hw hW (lv_sub hl [0] rfl)
theorem kX9_pass (l : Launch) (D : va_G) (cy : Nat → ClassId) (ad : Nat → Nat) (hi : zInj ad) (x1 : Int32) : zMi l yX9_pass (.code yX9_pass cX9_pass 3 (some .int) :: zG) rmX9_pass D cy ad [.ref (ad 42), .int x1] (wpX9_pass x1) :=
  zMi_of (by decide +kernel) (Nat.le_of_ble_eq_true rfl) hi (fun X M L post _ hret ls hl hw hW => mX9_pass X post hret M L x1 _ _ ls hw hW hl)
abbrev rmX9_passRow : Room := { frames := 1, cells := 0, slots := 0, locals := 22 }
set_option maxRecDepth 20000 in
set_option maxHeartbeats 4000000 in
theorem mX9_passRow_2 {p : Program} {l : Launch} {e : Env} {s : State} {m : MethodId} {args : Array Value} {below : List Frame} {meth : Method} {c : Code} {cells slots : Nat} {Q : State → Prop} {D : va_G} {cy : Nat → ClassId} {ad : Nat → Nat} {A : Nat → Prop} (X : zCx p rmX9_passRow s m args c cells slots cX9_passRow 4 RX9 D cy ad A) {r : Nat} {n : Nat} (hr : zRow r n) (post : Mm → Ml → Prop) (hret : zRv p l e rmX9_passRow s m args below meth c cells slots Q cX9_passRow D cy ad A post) : ∀ (j9 : Nat) (M : Mm) (L : Ml) (v2 : Int32) (v3 : Int32) (H : Heap) (locs : List Loc) (ls : Array Slot), wlX9_passRow_2 r n post j9 (M, L, v2, v3) → zWd D cy ad A s H locs M L → lv_has ls 4 [(0, .ref (ad 42)), (1, .ref (ad r)), (2, .int v2), (3, .int v3)] → W p l e rmX9_passRow s m args below meth c H locs cells slots Q (F0 m 2 ls []) := by
  have hx := X.1.1; have hb0 := X.1.2.1; have hts := X.1.2.2.2.2
  intro j9
  induction j9 with
  | zero => intro M L v2 v3 H locs ls hw; exact hw.elim
  | succ j9 ih =>
    obtain ⟨K2, hKe⟩ : ∃ K : Mm → Ml → Int32 → Int32 → Prop, K = fun M L v2 v3 => wlX9_passRow_2 r n post j9 (M, L, v2, v3) := ⟨_, rfl⟩
    have hK2 : ∀ (M : Mm) (L : Ml) (v2 : Int32) (v3 : Int32) (H : Heap) (locs : List Loc) (ls : Array Slot), K2 M L v2 v3 → zWd D cy ad A s H locs M L → lv_has ls 4 [(0, .ref (ad 42)), (1, .ref (ad r)), (2, .int v2), (3, .int v3)] → W p l e rmX9_passRow s m args below meth c H locs cells slots Q (F0 m 2 ls []) := by intro M L v2 v3 H locs ls hw; rw [hKe] at hw; exact ih M L v2 v3 H locs ls hw
    intro M L v2 v3 H locs ls hw hW hl
    have hw : wpX9_passRow_2 r n post K2 M L v2 v3 := by rw [hKe]; exact hw
    clear ih
    unfold wpX9_passRow_2 at hw
    refine lv_iload_n hx hb0 dX9_passRow_2 rfl (lv_at hl 3 rfl) ?_
    refine lv_iload_n hx hb0 dX9_passRow_3 rfl (lv_at hl 2 rfl) ?_
    refine lv_icmp_ge (tgt := 23) hx hb0 dX9_passRow_4 (by decide) (fun c_4 => ?_) (fun c_4 => ?_)
    · replace hw := hw.1 c_4
      exact hret _ ls _ _ M L dX9_passRow_23 hw hW
    · replace hw := hw.2 c_4
      refine lv_aload_n hx hb0 dX9_passRow_7 rfl (lv_at hl 1 rfl) ?_
      refine lv_iload_n hx hb0 dX9_passRow_8 rfl (lv_at hl 3 rfl) ?_
      refine lv_aload_n hx hb0 dX9_passRow_9 rfl (lv_at hl 0 rfl) ?_
      refine lv_aload_n hx hb0 dX9_passRow_10 rfl (lv_at hl 1 rfl) ?_
      refine lv_iload_n hx hb0 dX9_passRow_11 rfl (lv_at hl 3 rfl) ?_
      obtain ⟨g_12, hw⟩ := hw
      refine z_iald X hW hr g_12 dX9_passRow_12 ?_
      refine z_Vi X zO_42 zC7 zc_X9_pass zs_X9_pass zl_X9_293 rfl ⟨rfl, rfl⟩ ⟨Nat.le_of_ble_eq_true rfl, Nat.le_of_ble_eq_true rfl⟩ (kX9_pass l D cy ad X.2.2.2.1 (M r v3.toNatClampNeg)) hW hw hl.1 rfl rfl (Nat.le_of_ble_eq_true rfl) dX9_passRow_13 (fun r_13 M_13 L_13 H_13 locs_13 hw hW => ?_)
      obtain ⟨g_16, hw⟩ := hw
      refine z_iast X hW hr g_16 dX9_passRow_16 (fun M_16 H_16 locs_16 e_16 hW => ?_)
      replace hw := hw M_16 e_16
      obtain ⟨a_17, e_17⟩ : ∃ y : Int32, y = v3 + (1 : Int32) := ⟨_, rfl⟩
      replace hw := hw a_17 e_17
      refine lv_iinc (v := a_17) (lv' := [(3, .int a_17), (0, .ref (ad 42)), (1, .ref (ad r)), (2, .int v2)]) hx hb0 dX9_passRow_17 hl (k := 3) rfl (by rw [e_17]; rfl) (by decide) rfl (fun ls hl => ?_)
      refine lv_goto (tgt := 2) hx hb0 dX9_passRow_20 (by decide) ?_
      exact hK2 M_16 L_13 v2 a_17 _ _ ls hw hW (lv_sub hl [1, 2, 3, 0] rfl)
set_option maxRecDepth 20000 in
set_option maxHeartbeats 4000000 in
theorem mX9_passRow {p : Program} {l : Launch} {e : Env} {s : State} {m : MethodId} {args : Array Value} {below : List Frame} {meth : Method} {c : Code} {cells slots : Nat} {Q : State → Prop} {D : va_G} {cy : Nat → ClassId} {ad : Nat → Nat} {A : Nat → Prop} (X : zCx p rmX9_passRow s m args c cells slots cX9_passRow 4 RX9 D cy ad A) {r : Nat} {n : Nat} (hr : zRow r n) (post : Mm → Ml → Prop) (hret : zRv p l e rmX9_passRow s m args below meth c cells slots Q cX9_passRow D cy ad A post) : ∀ (M : Mm) (L : Ml) (x1 : Int32) (H : Heap) (locs : List Loc) (ls : Array Slot), wpX9_passRow r n x1 M L post → zWd D cy ad A s H locs M L → lv_has ls 4 [(0, .ref (ad 42)), (1, .ref (ad r)), (2, .int x1)] → W p l e rmX9_passRow s m args below meth c H locs cells slots Q (F0 m 0 ls []) := by
  have hx := X.1.1; have hb0 := X.1.2.1; have hts := X.1.2.2.2.2
  intro M L x1 H locs ls hw hW hl
  unfold wpX9_passRow at hw
  refine lv_iconst (v := (0 : Int32)) hx hb0 dX9_passRow_0 (by decide) ?_
  refine lv_istore_n (lv' := [(3, .int (0 : Int32)), (0, .ref (ad 42)), (1, .ref (ad r)), (2, .int x1)]) hx hb0 dX9_passRow_1 rfl hl (by decide) rfl (fun ls hl => ?_)
  obtain ⟨n_2, hw⟩ := hw
  exact mX9_passRow_2 X hr post hret n_2 M L x1 (0 : Int32) _ _ ls hw hW (lv_sub hl [1, 2, 3, 0] rfl)
theorem kX9_passRow (l : Launch) (D : va_G) (cy : Nat → ClassId) (ad : Nat → Nat) (hi : zInj ad) {r : Nat} {n : Nat} (hr : zRow r n) (x1 : Int32) : zMv l yX9_passRow (.code yX9_passRow cX9_passRow 4 none :: zG) rmX9_passRow D cy ad [.ref (ad 42), .ref (ad r), .int x1] (wpX9_passRow r n x1) :=
  zMv_of (by decide +kernel) (Nat.le_of_ble_eq_true rfl) hi (fun X M L post _ hret ls hl hw hW => mX9_passRow X hr post hret M L x1 _ _ ls hw hW hl)
abbrev rmX9_passAll : Room := { frames := 2, cells := 0, slots := 0, locals := 45 }
set_option maxRecDepth 20000 in
set_option maxHeartbeats 4000000 in
theorem mX9_passAll {p : Program} {l : Launch} {e : Env} {s : State} {m : MethodId} {args : Array Value} {below : List Frame} {meth : Method} {c : Code} {cells slots : Nat} {Q : State → Prop} {D : va_G} {cy : Nat → ClassId} {ad : Nat → Nat} {A : Nat → Prop} (X : zCx p rmX9_passAll s m args c cells slots cX9_passAll 1 RX9 D cy ad A) (post : Mm → Ml → Prop) (hret : zRv p l e rmX9_passAll s m args below meth c cells slots Q cX9_passAll D cy ad A post) : ∀ (M : Mm) (L : Ml) (H : Heap) (locs : List Loc) (ls : Array Slot), wpX9_passAll M L post → zWd D cy ad A s H locs M L → lv_has ls 1 [(0, .ref (ad 42))] → W p l e rmX9_passAll s m args below meth c H locs cells slots Q (F0 m 0 ls []) := by
  have hx := X.1.1; have hb0 := X.1.2.1; have hts := X.1.2.2.2.2
  intro M L H locs ls hw hW hl
  unfold wpX9_passAll at hw
  refine lv_aload_n hx hb0 dX9_passAll_0 rfl (lv_at hl 0 rfl) ?_
  refine lv_aload_n hx hb0 dX9_passAll_1 rfl (lv_at hl 0 rfl) ?_
  refine lv_aload_n hx hb0 dX9_passAll_2 rfl (lv_at hl 0 rfl) ?_
  refine z_getI X hW zC7 zF_42_0 (by decide) rfl zl_X9_90 dX9_passAll_3 ?_
  refine z_Vi X zO_42 zC7 zc_X9_pass zs_X9_pass zl_X9_293 rfl ⟨rfl, rfl⟩ ⟨Nat.le_of_ble_eq_true rfl, Nat.le_of_ble_eq_true rfl⟩ (kX9_pass l D cy ad X.2.2.2.1 (M 42 0)) hW hw hl.1 rfl rfl (Nat.le_of_ble_eq_true rfl) dX9_passAll_6 (fun r_6 M_6 L_6 H_6 locs_6 hw hW => ?_)
  refine z_put (ty := .int) X hW zC7 zF_42_0 (by decide) rfl zl_X9_90 rfl (by decide +kernel) rfl rfl dX9_passAll_9 (fun M_9 H_9 locs_9 e_9 hW => ?_)
  replace hw := hw M_9 e_9
  refine lv_aload_n hx hb0 dX9_passAll_12 rfl (lv_at hl 0 rfl) ?_
  refine lv_aload_n hx hb0 dX9_passAll_13 rfl (lv_at hl 0 rfl) ?_
  refine lv_aload_n hx hb0 dX9_passAll_14 rfl (lv_at hl 0 rfl) ?_
  refine z_getI X hW zC7 zF_42_11 (by decide) rfl zl_X9_245 dX9_passAll_15 ?_
  refine z_Vi X zO_42 zC7 zc_X9_pass zs_X9_pass zl_X9_293 rfl ⟨rfl, rfl⟩ ⟨Nat.le_of_ble_eq_true rfl, Nat.le_of_ble_eq_true rfl⟩ (kX9_pass l D cy ad X.2.2.2.1 (M_9 42 11)) hW hw hl.1 rfl rfl (Nat.le_of_ble_eq_true rfl) dX9_passAll_18 (fun r_18 M_18 L_18 H_18 locs_18 hw hW => ?_)
  refine z_put (ty := .int) X hW zC7 zF_42_11 (by decide) rfl zl_X9_245 rfl (by decide +kernel) rfl rfl dX9_passAll_21 (fun M_21 H_21 locs_21 e_21 hW => ?_)
  replace hw := hw M_21 e_21
  refine lv_aload_n hx hb0 dX9_passAll_24 rfl (lv_at hl 0 rfl) ?_
  refine lv_aload_n hx hb0 dX9_passAll_25 rfl (lv_at hl 0 rfl) ?_
  refine z_getR (k2 := 43) X hW zC7 zR_42_1 (by decide) rfl zl_X9_7 dX9_passAll_26 ?_
  refine lv_bipush (v := (8 : Int32)) hx hb0 dX9_passAll_29 (by decide) ?_
  refine z_Vv X zO_42 zC7 zc_X9_passRow zs_X9_passRow zl_X9_296 rfl ⟨rfl, rfl⟩ ⟨Nat.le_of_ble_eq_true rfl, Nat.le_of_ble_eq_true rfl⟩ (kX9_passRow l D cy ad X.2.2.2.1 zI_43 (8 : Int32)) hW hw hl.1 rfl rfl (Nat.le_of_ble_eq_true rfl) dX9_passAll_31 (fun M_31 L_31 H_31 locs_31 hw hW => ?_)
  refine lv_aload_n hx hb0 dX9_passAll_34 rfl (lv_at hl 0 rfl) ?_
  refine lv_aload_n hx hb0 dX9_passAll_35 rfl (lv_at hl 0 rfl) ?_
  refine z_getR (k2 := 44) X hW zC7 zR_42_2 (by decide) rfl zl_X9_13 dX9_passAll_36 ?_
  refine lv_bipush (v := (8 : Int32)) hx hb0 dX9_passAll_39 (by decide) ?_
  refine z_Vv X zO_42 zC7 zc_X9_passRow zs_X9_passRow zl_X9_296 rfl ⟨rfl, rfl⟩ ⟨Nat.le_of_ble_eq_true rfl, Nat.le_of_ble_eq_true rfl⟩ (kX9_passRow l D cy ad X.2.2.2.1 zI_44 (8 : Int32)) hW hw hl.1 rfl rfl (Nat.le_of_ble_eq_true rfl) dX9_passAll_41 (fun M_41 L_41 H_41 locs_41 hw hW => ?_)
  refine lv_aload_n hx hb0 dX9_passAll_44 rfl (lv_at hl 0 rfl) ?_
  refine lv_aload_n hx hb0 dX9_passAll_45 rfl (lv_at hl 0 rfl) ?_
  refine z_getR (k2 := 45) X hW zC7 zR_42_3 (by decide) rfl zl_X9_16 dX9_passAll_46 ?_
  refine lv_bipush (v := (8 : Int32)) hx hb0 dX9_passAll_49 (by decide) ?_
  refine z_Vv X zO_42 zC7 zc_X9_passRow zs_X9_passRow zl_X9_296 rfl ⟨rfl, rfl⟩ ⟨Nat.le_of_ble_eq_true rfl, Nat.le_of_ble_eq_true rfl⟩ (kX9_passRow l D cy ad X.2.2.2.1 zI_45 (8 : Int32)) hW hw hl.1 rfl rfl (Nat.le_of_ble_eq_true rfl) dX9_passAll_51 (fun M_51 L_51 H_51 locs_51 hw hW => ?_)
  refine lv_aload_n hx hb0 dX9_passAll_54 rfl (lv_at hl 0 rfl) ?_
  refine lv_aload_n hx hb0 dX9_passAll_55 rfl (lv_at hl 0 rfl) ?_
  refine z_getR (k2 := 46) X hW zC7 zR_42_4 (by decide) rfl zl_X9_19 dX9_passAll_56 ?_
  refine lv_bipush (v := (8 : Int32)) hx hb0 dX9_passAll_59 (by decide) ?_
  refine z_Vv X zO_42 zC7 zc_X9_passRow zs_X9_passRow zl_X9_296 rfl ⟨rfl, rfl⟩ ⟨Nat.le_of_ble_eq_true rfl, Nat.le_of_ble_eq_true rfl⟩ (kX9_passRow l D cy ad X.2.2.2.1 zI_46 (8 : Int32)) hW hw hl.1 rfl rfl (Nat.le_of_ble_eq_true rfl) dX9_passAll_61 (fun M_61 L_61 H_61 locs_61 hw hW => ?_)
  refine lv_aload_n hx hb0 dX9_passAll_64 rfl (lv_at hl 0 rfl) ?_
  refine lv_aload_n hx hb0 dX9_passAll_65 rfl (lv_at hl 0 rfl) ?_
  refine z_getR (k2 := 47) X hW zC7 zR_42_5 (by decide) rfl zl_X9_22 dX9_passAll_66 ?_
  refine lv_bipush (v := (8 : Int32)) hx hb0 dX9_passAll_69 (by decide) ?_
  refine z_Vv X zO_42 zC7 zc_X9_passRow zs_X9_passRow zl_X9_296 rfl ⟨rfl, rfl⟩ ⟨Nat.le_of_ble_eq_true rfl, Nat.le_of_ble_eq_true rfl⟩ (kX9_passRow l D cy ad X.2.2.2.1 zI_47 (8 : Int32)) hW hw hl.1 rfl rfl (Nat.le_of_ble_eq_true rfl) dX9_passAll_71 (fun M_71 L_71 H_71 locs_71 hw hW => ?_)
  refine lv_aload_n hx hb0 dX9_passAll_74 rfl (lv_at hl 0 rfl) ?_
  refine lv_aload_n hx hb0 dX9_passAll_75 rfl (lv_at hl 0 rfl) ?_
  refine z_getR (k2 := 48) X hW zC7 zR_42_6 (by decide) rfl zl_X9_25 dX9_passAll_76 ?_
  refine lv_bipush (v := (6 : Int32)) hx hb0 dX9_passAll_79 (by decide) ?_
  refine z_Vv X zO_42 zC7 zc_X9_passRow zs_X9_passRow zl_X9_296 rfl ⟨rfl, rfl⟩ ⟨Nat.le_of_ble_eq_true rfl, Nat.le_of_ble_eq_true rfl⟩ (kX9_passRow l D cy ad X.2.2.2.1 zI_48 (6 : Int32)) hW hw hl.1 rfl rfl (Nat.le_of_ble_eq_true rfl) dX9_passAll_81 (fun M_81 L_81 H_81 locs_81 hw hW => ?_)
  refine lv_aload_n hx hb0 dX9_passAll_84 rfl (lv_at hl 0 rfl) ?_
  refine lv_aload_n hx hb0 dX9_passAll_85 rfl (lv_at hl 0 rfl) ?_
  refine z_getR (k2 := 49) X hW zC7 zR_42_7 (by decide) rfl zl_X9_28 dX9_passAll_86 ?_
  refine lv_bipush (v := (6 : Int32)) hx hb0 dX9_passAll_89 (by decide) ?_
  refine z_Vv X zO_42 zC7 zc_X9_passRow zs_X9_passRow zl_X9_296 rfl ⟨rfl, rfl⟩ ⟨Nat.le_of_ble_eq_true rfl, Nat.le_of_ble_eq_true rfl⟩ (kX9_passRow l D cy ad X.2.2.2.1 zI_49 (6 : Int32)) hW hw hl.1 rfl rfl (Nat.le_of_ble_eq_true rfl) dX9_passAll_91 (fun M_91 L_91 H_91 locs_91 hw hW => ?_)
  refine lv_aload_n hx hb0 dX9_passAll_94 rfl (lv_at hl 0 rfl) ?_
  refine lv_aload_n hx hb0 dX9_passAll_95 rfl (lv_at hl 0 rfl) ?_
  refine z_getR (k2 := 50) X hW zC7 zR_42_8 (by decide) rfl zl_X9_31 dX9_passAll_96 ?_
  refine lv_iconst (v := (2 : Int32)) hx hb0 dX9_passAll_99 (by decide) ?_
  refine z_Vv X zO_42 zC7 zc_X9_passRow zs_X9_passRow zl_X9_296 rfl ⟨rfl, rfl⟩ ⟨Nat.le_of_ble_eq_true rfl, Nat.le_of_ble_eq_true rfl⟩ (kX9_passRow l D cy ad X.2.2.2.1 zI_50 (2 : Int32)) hW hw hl.1 rfl rfl (Nat.le_of_ble_eq_true rfl) dX9_passAll_100 (fun M_100 L_100 H_100 locs_100 hw hW => ?_)
  refine lv_aload_n hx hb0 dX9_passAll_103 rfl (lv_at hl 0 rfl) ?_
  refine lv_aload_n hx hb0 dX9_passAll_104 rfl (lv_at hl 0 rfl) ?_
  refine z_getR (k2 := 51) X hW zC7 zR_42_9 (by decide) rfl zl_X9_34 dX9_passAll_105 ?_
  refine lv_bipush (v := (8 : Int32)) hx hb0 dX9_passAll_108 (by decide) ?_
  refine z_Vv X zO_42 zC7 zc_X9_passRow zs_X9_passRow zl_X9_296 rfl ⟨rfl, rfl⟩ ⟨Nat.le_of_ble_eq_true rfl, Nat.le_of_ble_eq_true rfl⟩ (kX9_passRow l D cy ad X.2.2.2.1 zI_51 (8 : Int32)) hW hw hl.1 rfl rfl (Nat.le_of_ble_eq_true rfl) dX9_passAll_110 (fun M_110 L_110 H_110 locs_110 hw hW => ?_)
  refine lv_aload_n hx hb0 dX9_passAll_113 rfl (lv_at hl 0 rfl) ?_
  refine lv_aload_n hx hb0 dX9_passAll_114 rfl (lv_at hl 0 rfl) ?_
  refine z_getR (k2 := 52) X hW zC7 zR_42_10 (by decide) rfl zl_X9_37 dX9_passAll_115 ?_
  refine lv_bipush (v := (8 : Int32)) hx hb0 dX9_passAll_118 (by decide) ?_
  refine z_Vv X zO_42 zC7 zc_X9_passRow zs_X9_passRow zl_X9_296 rfl ⟨rfl, rfl⟩ ⟨Nat.le_of_ble_eq_true rfl, Nat.le_of_ble_eq_true rfl⟩ (kX9_passRow l D cy ad X.2.2.2.1 zI_52 (8 : Int32)) hW hw hl.1 rfl rfl (Nat.le_of_ble_eq_true rfl) dX9_passAll_120 (fun M_120 L_120 H_120 locs_120 hw hW => ?_)
  exact hret _ ls _ _ M_120 L_120 dX9_passAll_123 hw hW
theorem kX9_passAll (l : Launch) (D : va_G) (cy : Nat → ClassId) (ad : Nat → Nat) (hi : zInj ad) : zMv l yX9_passAll (.code yX9_passAll cX9_passAll 1 none :: zG) rmX9_passAll D cy ad [.ref (ad 42)] (wpX9_passAll) :=
  zMv_of (by decide +kernel) (Nat.le_of_ble_eq_true rfl) hi (fun X M L post _ hret ls hl hw hW => mX9_passAll X post hret M L _ _ ls hw hW hl)
abbrev rmX9_image : Room := { frames := 3, cells := 0, slots := 0, locals := 65 }
set_option maxRecDepth 20000 in
set_option maxHeartbeats 4000000 in
theorem mX9_image {p : Program} {l : Launch} {e : Env} {s : State} {m : MethodId} {args : Array Value} {below : List Frame} {meth : Method} {c : Code} {cells slots : Nat} {Q : State → Prop} {D : va_G} {cy : Nat → ClassId} {ad : Nat → Nat} {A : Nat → Prop} (X : zCx p rmX9_image s m args c cells slots cX9_image 2 RX9 D cy ad A) (post : Int32 → Mm → Ml → Prop) (hret : zRi p l e rmX9_image s m args below meth c cells slots Q cX9_image D cy ad A .int post) : ∀ (M : Mm) (L : Ml) (x1 : Int32) (H : Heap) (locs : List Loc) (ls : Array Slot), wpX9_image x1 M L post → zWd D cy ad A s H locs M L → lv_has ls 2 [(0, .ref (ad 42)), (1, .int x1)] → W p l e rmX9_image s m args below meth c H locs cells slots Q (F0 m 0 ls []) := by
  have hx := X.1.1; have hb0 := X.1.2.1; have hts := X.1.2.2.2.2
  intro M L x1 H locs ls hw hW hl
  unfold wpX9_image at hw
  refine lv_iload_n hx hb0 dX9_image_0 rfl (lv_at hl 1 rfl) ?_
  refine lv_i2l hx hb0 dX9_image_1 rfl ?_
  refine lv_lconst (v := (0 : Int64)) hx hb0 dX9_image_2 (by decide) ?_
  refine lv_lconst (v := (1 : Int64)) hx hb0 dX9_image_3 (by decide) ?_
  refine z_Si X zc_X9_in zt_X9_in zl_X9_86 rfl ⟨rfl, rfl⟩ ⟨Nat.le_of_ble_eq_true rfl, Nat.le_of_ble_eq_true rfl⟩ (kX9_in l D cy ad X.2.2.2.1 (x1.toInt64) (0 : Int64) (1 : Int64)) hW hw hl.1 rfl rfl (Nat.le_of_ble_eq_true rfl) dX9_image_4 (fun r_4 M_4 L_4 H_4 locs_4 hw hW => ?_)
  refine lv_if_ne (tgt := 13) hx hb0 dX9_image_7 (by decide) (fun c_7 => ?_) (fun c_7 => ?_)
  · replace hw := hw.1 c_7
    refine lv_aload_n hx hb0 dX9_image_13 rfl (lv_at hl 0 rfl) ?_
    refine lv_bipush (v := (90 : Int32)) hx hb0 dX9_image_14 (by decide) ?_
    refine lv_iload_n hx hb0 dX9_image_16 rfl (lv_at hl 1 rfl) ?_
    refine lv_imul hx hb0 dX9_image_17 ?_
    refine z_put (ty := .int) X hW zC7 zF_42_33 (by decide) rfl zl_X9_290 rfl (by decide +kernel) rfl rfl dX9_image_18 (fun M_18 H_18 locs_18 e_18 hW => ?_)
    replace hw := hw M_18 e_18
    refine lv_aload_n hx hb0 dX9_image_21 rfl (lv_at hl 0 rfl) ?_
    refine lv_iconst (v := (1 : Int32)) hx hb0 dX9_image_22 (by decide) ?_
    refine z_put (ty := .boolean) X hW zC7 zF_42_34 (by decide) rfl zl_X9_286 rfl (by decide +kernel) rfl rfl dX9_image_23 (fun M_23 H_23 locs_23 e_23 hW => ?_)
    replace hw := hw M_23 e_23
    refine lv_aload_n hx hb0 dX9_image_26 rfl (lv_at hl 0 rfl) ?_
    refine z_Vv X zO_42 zC7 zc_X9_passAll zs_X9_passAll zl_X9_300 rfl ⟨rfl, rfl⟩ ⟨Nat.le_of_ble_eq_true rfl, Nat.le_of_ble_eq_true rfl⟩ (kX9_passAll l D cy ad X.2.2.2.1) hW hw hl.1 rfl rfl (Nat.le_of_ble_eq_true rfl) dX9_image_27 (fun M_27 L_27 H_27 locs_27 hw hW => ?_)
    refine lv_aload_n hx hb0 dX9_image_30 rfl (lv_at hl 0 rfl) ?_
    refine z_getR (k2 := 66) X hW zC7 zR_42_32 (by decide) rfl zl_X9_81 dX9_image_31 ?_
    refine lv_iload_n hx hb0 dX9_image_34 rfl (lv_at hl 1 rfl) ?_
    refine lv_iconst (v := (1 : Int32)) hx hb0 dX9_image_35 (by decide) ?_
    obtain ⟨g_36, hw⟩ := hw
    refine z_zast X hW zI_66 g_36 dX9_image_36 (fun M_36 H_36 locs_36 e_36 hW => ?_)
    replace hw := hw M_36 e_36
    refine lv_iconst (v := (1 : Int32)) hx hb0 dX9_image_37 (by decide) ?_
    exact hret _ ls _ _ (1 : Int32) M_36 L_27 dX9_image_38 rfl hw hW
  · replace hw := hw.2 c_7
    refine lv_bipush (v := (-2 : Int32)) hx hb0 dX9_image_10 (by decide) ?_
    exact hret _ ls _ _ (-2 : Int32) M_4 L_4 dX9_image_12 rfl hw hW
theorem kX9_image (l : Launch) (D : va_G) (cy : Nat → ClassId) (ad : Nat → Nat) (hi : zInj ad) (x1 : Int32) : zMi l yX9_image (.code yX9_image cX9_image 2 (some .int) :: zG) rmX9_image D cy ad [.ref (ad 42), .int x1] (wpX9_image x1) :=
  zMi_of (by decide +kernel) (Nat.le_of_ble_eq_true rfl) hi (fun X M L post _ hret ls hl hw hW => mX9_image X post hret M L x1 _ _ ls hw hW hl)
abbrev rmX9_restore : Room := { frames := 3, cells := 0, slots := 0, locals := 65 }
set_option maxRecDepth 20000 in
set_option maxHeartbeats 4000000 in
theorem mX9_restore {p : Program} {l : Launch} {e : Env} {s : State} {m : MethodId} {args : Array Value} {below : List Frame} {meth : Method} {c : Code} {cells slots : Nat} {Q : State → Prop} {D : va_G} {cy : Nat → ClassId} {ad : Nat → Nat} {A : Nat → Prop} (X : zCx p rmX9_restore s m args c cells slots cX9_restore 2 RX9 D cy ad A) (post : Int32 → Mm → Ml → Prop) (hret : zRi p l e rmX9_restore s m args below meth c cells slots Q cX9_restore D cy ad A .int post) : ∀ (M : Mm) (L : Ml) (x1 : Int32) (H : Heap) (locs : List Loc) (ls : Array Slot), wpX9_restore x1 M L post → zWd D cy ad A s H locs M L → lv_has ls 2 [(0, .ref (ad 42)), (1, .int x1)] → W p l e rmX9_restore s m args below meth c H locs cells slots Q (F0 m 0 ls []) := by
  have hx := X.1.1; have hb0 := X.1.2.1; have hts := X.1.2.2.2.2
  intro M L x1 H locs ls hw hW hl
  unfold wpX9_restore at hw
  refine lv_iload_n hx hb0 dX9_restore_0 rfl (lv_at hl 1 rfl) ?_
  refine lv_i2l hx hb0 dX9_restore_1 rfl ?_
  refine lv_lconst (v := (0 : Int64)) hx hb0 dX9_restore_2 (by decide) ?_
  refine lv_lconst (v := (1 : Int64)) hx hb0 dX9_restore_3 (by decide) ?_
  refine z_Si X zc_X9_in zt_X9_in zl_X9_86 rfl ⟨rfl, rfl⟩ ⟨Nat.le_of_ble_eq_true rfl, Nat.le_of_ble_eq_true rfl⟩ (kX9_in l D cy ad X.2.2.2.1 (x1.toInt64) (0 : Int64) (1 : Int64)) hW hw hl.1 rfl rfl (Nat.le_of_ble_eq_true rfl) dX9_restore_4 (fun r_4 M_4 L_4 H_4 locs_4 hw hW => ?_)
  refine lv_if_ne (tgt := 13) hx hb0 dX9_restore_7 (by decide) (fun c_7 => ?_) (fun c_7 => ?_)
  · replace hw := hw.1 c_7
    refine lv_aload_n hx hb0 dX9_restore_13 rfl (lv_at hl 0 rfl) ?_
    refine z_getR (k2 := 66) X hW zC7 zR_42_32 (by decide) rfl zl_X9_81 dX9_restore_14 ?_
    refine lv_iload_n hx hb0 dX9_restore_17 rfl (lv_at hl 1 rfl) ?_
    obtain ⟨g_18, hw⟩ := hw
    refine z_zald X hW zI_66 g_18 dX9_restore_18 ?_
    refine lv_if_ne (tgt := 25) hx hb0 dX9_restore_19 (by decide) (fun c_19 => ?_) (fun c_19 => ?_)
    · replace hw := hw.1 c_19
      refine lv_aload_n hx hb0 dX9_restore_25 rfl (lv_at hl 0 rfl) ?_
      refine lv_bipush (v := (90 : Int32)) hx hb0 dX9_restore_26 (by decide) ?_
      refine lv_iload_n hx hb0 dX9_restore_28 rfl (lv_at hl 1 rfl) ?_
      refine lv_imul hx hb0 dX9_restore_29 ?_
      refine z_put (ty := .int) X hW zC7 zF_42_33 (by decide) rfl zl_X9_290 rfl (by decide +kernel) rfl rfl dX9_restore_30 (fun M_30 H_30 locs_30 e_30 hW => ?_)
      replace hw := hw M_30 e_30
      refine lv_aload_n hx hb0 dX9_restore_33 rfl (lv_at hl 0 rfl) ?_
      refine lv_iconst (v := (0 : Int32)) hx hb0 dX9_restore_34 (by decide) ?_
      refine z_put (ty := .boolean) X hW zC7 zF_42_34 (by decide) rfl zl_X9_286 rfl (by decide +kernel) rfl rfl dX9_restore_35 (fun M_35 H_35 locs_35 e_35 hW => ?_)
      replace hw := hw M_35 e_35
      refine lv_aload_n hx hb0 dX9_restore_38 rfl (lv_at hl 0 rfl) ?_
      refine z_Vv X zO_42 zC7 zc_X9_passAll zs_X9_passAll zl_X9_300 rfl ⟨rfl, rfl⟩ ⟨Nat.le_of_ble_eq_true rfl, Nat.le_of_ble_eq_true rfl⟩ (kX9_passAll l D cy ad X.2.2.2.1) hW hw hl.1 rfl rfl (Nat.le_of_ble_eq_true rfl) dX9_restore_39 (fun M_39 L_39 H_39 locs_39 hw hW => ?_)
      refine lv_iconst (v := (1 : Int32)) hx hb0 dX9_restore_42 (by decide) ?_
      exact hret _ ls _ _ (1 : Int32) M_39 L_39 dX9_restore_43 rfl hw hW
    · replace hw := hw.2 c_19
      refine lv_bipush (v := (-3 : Int32)) hx hb0 dX9_restore_22 (by decide) ?_
      exact hret _ ls _ _ (-3 : Int32) M_4 L_4 dX9_restore_24 rfl hw hW
  · replace hw := hw.2 c_7
    refine lv_bipush (v := (-2 : Int32)) hx hb0 dX9_restore_10 (by decide) ?_
    exact hret _ ls _ _ (-2 : Int32) M_4 L_4 dX9_restore_12 rfl hw hW
theorem kX9_restore (l : Launch) (D : va_G) (cy : Nat → ClassId) (ad : Nat → Nat) (hi : zInj ad) (x1 : Int32) : zMi l yX9_restore (.code yX9_restore cX9_restore 2 (some .int) :: zG) rmX9_restore D cy ad [.ref (ad 42), .int x1] (wpX9_restore x1) :=
  zMi_of (by decide +kernel) (Nat.le_of_ble_eq_true rfl) hi (fun X M L post _ hret ls hl hw hW => mX9_restore X post hret M L x1 _ _ ls hw hW hl)
abbrev rmX9_toldOf : Room := { frames := 2, cells := 0, slots := 0, locals := 46 }
set_option maxRecDepth 20000 in
set_option maxHeartbeats 4000000 in
theorem mX9_toldOf {p : Program} {l : Launch} {e : Env} {s : State} {m : MethodId} {args : Array Value} {below : List Frame} {meth : Method} {c : Code} {cells slots : Nat} {Q : State → Prop} {D : va_G} {cy : Nat → ClassId} {ad : Nat → Nat} {A : Nat → Prop} (X : zCx p rmX9_toldOf s m args c cells slots cX9_toldOf 3 RX9 D cy ad A) (post : Int32 → Mm → Ml → Prop) (hret : zRi p l e rmX9_toldOf s m args below meth c cells slots Q cX9_toldOf D cy ad A .int post) : ∀ (M : Mm) (L : Ml) (x1 : Int32) (x2 : Int32) (H : Heap) (locs : List Loc) (ls : Array Slot), wpX9_toldOf x1 x2 M L post → zWd D cy ad A s H locs M L → lv_has ls 3 [(0, .ref (ad 42)), (1, .int x1), (2, .int x2)] → W p l e rmX9_toldOf s m args below meth c H locs cells slots Q (F0 m 0 ls []) := by
  have hx := X.1.1; have hb0 := X.1.2.1; have hts := X.1.2.2.2.2
  intro M L x1 x2 H locs ls hw hW hl
  unfold wpX9_toldOf at hw
  refine lv_aload_n hx hb0 dX9_toldOf_0 rfl (lv_at hl 0 rfl) ?_
  refine lv_iload_n hx hb0 dX9_toldOf_1 rfl (lv_at hl 1 rfl) ?_
  refine z_Vi X zO_42 zC7 zc_X9_isFlake zs_X9_isFlake zl_X9_113 rfl ⟨rfl, rfl⟩ ⟨Nat.le_of_ble_eq_true rfl, Nat.le_of_ble_eq_true rfl⟩ (kX9_isFlake l D cy ad X.2.2.2.1 x1) hW hw hl.1 rfl rfl (Nat.le_of_ble_eq_true rfl) dX9_toldOf_2 (fun r_2 M_2 L_2 H_2 locs_2 hw hW => ?_)
  refine lv_if_ne (tgt := 11) hx hb0 dX9_toldOf_5 (by decide) (fun c_5 => ?_) (fun c_5 => ?_)
  · replace hw := hw.1 c_5
    refine lv_iload_n hx hb0 dX9_toldOf_11 rfl (lv_at hl 2 rfl) ?_
    by_cases c_12_0 : x2 = (0 : Int32)
    · replace hw := hw.1 c_12_0
      refine lv_tableIn (tgt := 48) (off := 36) hx hb0 dX9_toldOf_12 (by rw [c_12_0]; decide) (by rw [c_12_0]; decide) (by rw [c_12_0]; rfl) (by decide) ?_
      refine lv_aload_n hx hb0 dX9_toldOf_48 rfl (lv_at hl 0 rfl) ?_
      refine z_getR (k2 := 43) X hW zC7 zR_42_1 (by decide) rfl zl_X9_7 dX9_toldOf_49 ?_
      refine lv_iload_n hx hb0 dX9_toldOf_52 rfl (lv_at hl 1 rfl) ?_
      obtain ⟨g_53, hw⟩ := hw
      refine z_iald X hW zI_43 g_53 dX9_toldOf_53 ?_
      exact hret _ ls _ _ (M_2 43 x1.toNatClampNeg) M_2 L_2 dX9_toldOf_54 rfl hw hW
    · replace hw := hw.2 c_12_0
      by_cases c_12_1 : x2 = (1 : Int32)
      · replace hw := hw.1 c_12_1
        refine lv_tableIn (tgt := 55) (off := 43) hx hb0 dX9_toldOf_12 (by rw [c_12_1]; decide) (by rw [c_12_1]; decide) (by rw [c_12_1]; rfl) (by decide) ?_
        refine lv_aload_n hx hb0 dX9_toldOf_55 rfl (lv_at hl 0 rfl) ?_
        refine z_getR (k2 := 44) X hW zC7 zR_42_2 (by decide) rfl zl_X9_13 dX9_toldOf_56 ?_
        refine lv_iload_n hx hb0 dX9_toldOf_59 rfl (lv_at hl 1 rfl) ?_
        obtain ⟨g_60, hw⟩ := hw
        refine z_iald X hW zI_44 g_60 dX9_toldOf_60 ?_
        exact hret _ ls _ _ (M_2 44 x1.toNatClampNeg) M_2 L_2 dX9_toldOf_61 rfl hw hW
      · replace hw := hw.2 c_12_1
        by_cases c_12_2 : x2 = (2 : Int32)
        · replace hw := hw.1 c_12_2
          refine lv_tableIn (tgt := 62) (off := 50) hx hb0 dX9_toldOf_12 (by rw [c_12_2]; decide) (by rw [c_12_2]; decide) (by rw [c_12_2]; rfl) (by decide) ?_
          refine lv_aload_n hx hb0 dX9_toldOf_62 rfl (lv_at hl 0 rfl) ?_
          refine z_getR (k2 := 45) X hW zC7 zR_42_3 (by decide) rfl zl_X9_16 dX9_toldOf_63 ?_
          refine lv_iload_n hx hb0 dX9_toldOf_66 rfl (lv_at hl 1 rfl) ?_
          obtain ⟨g_67, hw⟩ := hw
          refine z_iald X hW zI_45 g_67 dX9_toldOf_67 ?_
          exact hret _ ls _ _ (M_2 45 x1.toNatClampNeg) M_2 L_2 dX9_toldOf_68 rfl hw hW
        · replace hw := hw.2 c_12_2
          by_cases c_12_3 : x2 = (3 : Int32)
          · replace hw := hw.1 c_12_3
            refine lv_tableIn (tgt := 69) (off := 57) hx hb0 dX9_toldOf_12 (by rw [c_12_3]; decide) (by rw [c_12_3]; decide) (by rw [c_12_3]; rfl) (by decide) ?_
            refine lv_aload_n hx hb0 dX9_toldOf_69 rfl (lv_at hl 0 rfl) ?_
            refine z_getR (k2 := 46) X hW zC7 zR_42_4 (by decide) rfl zl_X9_19 dX9_toldOf_70 ?_
            refine lv_iload_n hx hb0 dX9_toldOf_73 rfl (lv_at hl 1 rfl) ?_
            obtain ⟨g_74, hw⟩ := hw
            refine z_iald X hW zI_46 g_74 dX9_toldOf_74 ?_
            exact hret _ ls _ _ (M_2 46 x1.toNatClampNeg) M_2 L_2 dX9_toldOf_75 rfl hw hW
          · replace hw := hw.2 c_12_3
            by_cases c_12_4 : x2 = (4 : Int32)
            · replace hw := hw.1 c_12_4
              refine lv_tableIn (tgt := 76) (off := 64) hx hb0 dX9_toldOf_12 (by rw [c_12_4]; decide) (by rw [c_12_4]; decide) (by rw [c_12_4]; rfl) (by decide) ?_
              refine lv_aload_n hx hb0 dX9_toldOf_76 rfl (lv_at hl 0 rfl) ?_
              refine z_getR (k2 := 47) X hW zC7 zR_42_5 (by decide) rfl zl_X9_22 dX9_toldOf_77 ?_
              refine lv_iload_n hx hb0 dX9_toldOf_80 rfl (lv_at hl 1 rfl) ?_
              obtain ⟨g_81, hw⟩ := hw
              refine z_iald X hW zI_47 g_81 dX9_toldOf_81 ?_
              exact hret _ ls _ _ (M_2 47 x1.toNatClampNeg) M_2 L_2 dX9_toldOf_82 rfl hw hW
            · replace hw := hw.2 c_12_4
              refine lv_tableOut (tgt := 83) hx hb0 dX9_toldOf_12 (by have q0 : ¬ x2.toInt = 0 := lv_neT c_12_0 (by decide); have q1 : ¬ x2.toInt = 1 := lv_neT c_12_1 (by decide); have q2 : ¬ x2.toInt = 2 := lv_neT c_12_2 (by decide); have q3 : ¬ x2.toInt = 3 := lv_neT c_12_3 (by decide); have q4 : ¬ x2.toInt = 4 := lv_neT c_12_4 (by decide); omega) (by decide) ?_
              refine lv_bipush (v := (-2 : Int32)) hx hb0 dX9_toldOf_83 (by decide) ?_
              exact hret _ ls _ _ (-2 : Int32) M_2 L_2 dX9_toldOf_85 rfl hw hW
  · replace hw := hw.2 c_5
    refine lv_bipush (v := (-2 : Int32)) hx hb0 dX9_toldOf_8 (by decide) ?_
    exact hret _ ls _ _ (-2 : Int32) M_2 L_2 dX9_toldOf_10 rfl hw hW
theorem kX9_toldOf (l : Launch) (D : va_G) (cy : Nat → ClassId) (ad : Nat → Nat) (hi : zInj ad) (x1 : Int32) (x2 : Int32) : zMi l yX9_toldOf (.code yX9_toldOf cX9_toldOf 3 (some .int) :: zG) rmX9_toldOf D cy ad [.ref (ad 42), .int x1, .int x2] (wpX9_toldOf x1 x2) :=
  zMi_of (by decide +kernel) (Nat.le_of_ble_eq_true rfl) hi (fun X M L post _ hret ls hl hw hW => mX9_toldOf X post hret M L x1 x2 _ _ ls hw hW hl)
abbrev rmX9_told : Room := { frames := 3, cells := 0, slots := 0, locals := 68 }
set_option maxRecDepth 20000 in
set_option maxHeartbeats 4000000 in
theorem mX9_told_57 {p : Program} {l : Launch} {e : Env} {s : State} {m : MethodId} {args : Array Value} {below : List Frame} {meth : Method} {c : Code} {cells slots : Nat} {Q : State → Prop} {D : va_G} {cy : Nat → ClassId} {ad : Nat → Nat} {A : Nat → Prop} (X : zCx p rmX9_told s m args c cells slots cX9_told 3 RX9 D cy ad A) (post : Int32 → Mm → Ml → Prop) (hret : zRi p l e rmX9_told s m args below meth c cells slots Q cX9_told D cy ad A .int post) : ∀ (M : Mm) (L : Ml) (s0 : Int32) (H : Heap) (locs : List Loc) (ls : Array Slot), wpX9_told_57 post M L s0 → zWd D cy ad A s H locs M L → lv_has ls 3 [] → W p l e rmX9_told s m args below meth c H locs cells slots Q (F0 m 57 ls [.int s0]) := by
  have hx := X.1.1; have hb0 := X.1.2.1; have hts := X.1.2.2.2.2
  intro M L s0 H locs ls hw hW hl
  unfold wpX9_told_57 at hw
  exact hret _ ls _ _ s0 M L dX9_told_57 rfl hw hW
set_option maxRecDepth 20000 in
set_option maxHeartbeats 4000000 in
theorem mX9_told {p : Program} {l : Launch} {e : Env} {s : State} {m : MethodId} {args : Array Value} {below : List Frame} {meth : Method} {c : Code} {cells slots : Nat} {Q : State → Prop} {D : va_G} {cy : Nat → ClassId} {ad : Nat → Nat} {A : Nat → Prop} (X : zCx p rmX9_told s m args c cells slots cX9_told 3 RX9 D cy ad A) (post : Int32 → Mm → Ml → Prop) (hret : zRi p l e rmX9_told s m args below meth c cells slots Q cX9_told D cy ad A .int post) : ∀ (M : Mm) (L : Ml) (x1 : Int32) (H : Heap) (locs : List Loc) (ls : Array Slot), wpX9_told x1 M L post → zWd D cy ad A s H locs M L → lv_has ls 3 [(0, .ref (ad 42)), (1, .int x1)] → W p l e rmX9_told s m args below meth c H locs cells slots Q (F0 m 0 ls []) := by
  have hx := X.1.1; have hb0 := X.1.2.1; have hts := X.1.2.2.2.2
  intro M L x1 H locs ls hw hW hl
  unfold wpX9_told at hw
  refine lv_iload_n hx hb0 dX9_told_0 rfl (lv_at hl 1 rfl) ?_
  refine lv_i2l hx hb0 dX9_told_1 rfl ?_
  refine lv_ldc2 (v := (100 : Int64)) hx hb0 X.1.2.2.2.1 (hts _ zk_X9_303) dX9_told_2 ?_
  refine lv_ldc2 (v := (159 : Int64)) hx hb0 X.1.2.2.2.1 (hts _ zk_X9_305) dX9_told_5 ?_
  refine z_Si X zc_X9_in zt_X9_in zl_X9_86 rfl ⟨rfl, rfl⟩ ⟨Nat.le_of_ble_eq_true rfl, Nat.le_of_ble_eq_true rfl⟩ (kX9_in l D cy ad X.2.2.2.1 (x1.toInt64) (100 : Int64) (159 : Int64)) hW hw hl.1 rfl rfl (Nat.le_of_ble_eq_true rfl) dX9_told_8 (fun r_8 M_8 L_8 H_8 locs_8 hw hW => ?_)
  refine lv_if_eq (tgt := 58) hx hb0 dX9_told_11 (by decide) (fun c_11 => ?_) (fun c_11 => ?_)
  · replace hw := hw.1 c_11
    refine lv_iload_n hx hb0 dX9_told_58 rfl (lv_at hl 1 rfl) ?_
    refine lv_i2l hx hb0 dX9_told_59 rfl ?_
    refine lv_ldc2 (v := (10 : Int64)) hx hb0 X.1.2.2.2.1 (hts _ zk_X9_216) dX9_told_60 ?_
    refine lv_ldc2 (v := (89 : Int64)) hx hb0 X.1.2.2.2.1 (hts _ zk_X9_307) dX9_told_63 ?_
    refine z_Si X zc_X9_in zt_X9_in zl_X9_86 rfl ⟨rfl, rfl⟩ ⟨Nat.le_of_ble_eq_true rfl, Nat.le_of_ble_eq_true rfl⟩ (kX9_in l D cy ad X.2.2.2.1 (x1.toInt64) (10 : Int64) (89 : Int64)) hW hw hl.1 rfl rfl (Nat.le_of_ble_eq_true rfl) dX9_told_66 (fun r_66 M_66 L_66 H_66 locs_66 hw hW => ?_)
    refine lv_if_eq (tgt := 87) hx hb0 dX9_told_69 (by decide) (fun c_69 => ?_) (fun c_69 => ?_)
    · replace hw := hw.1 c_69
      refine lv_iload_n hx hb0 dX9_told_87 rfl (lv_at hl 1 rfl) ?_
      by_cases c_88_0 : x1 = (0 : Int32)
      · replace hw := hw.1 c_88_0
        refine lv_tableIn (tgt := 128) (off := 40) hx hb0 dX9_told_88 (by rw [c_88_0]; decide) (by rw [c_88_0]; decide) (by rw [c_88_0]; rfl) (by decide) ?_
        refine lv_aload_n hx hb0 dX9_told_128 rfl (lv_at hl 0 rfl) ?_
        refine z_getI X hW zC7 zF_42_13 (by decide) rfl zl_X9_120 dX9_told_129 ?_
        exact hret _ ls _ _ (M_66 42 13) M_66 L_66 dX9_told_132 rfl hw hW
      · replace hw := hw.2 c_88_0
        by_cases c_88_1 : x1 = (1 : Int32)
        · replace hw := hw.1 c_88_1
          refine lv_tableIn (tgt := 133) (off := 45) hx hb0 dX9_told_88 (by rw [c_88_1]; decide) (by rw [c_88_1]; decide) (by rw [c_88_1]; rfl) (by decide) ?_
          refine lv_aload_n hx hb0 dX9_told_133 rfl (lv_at hl 0 rfl) ?_
          refine z_getI X hW zC7 zF_42_0 (by decide) rfl zl_X9_90 dX9_told_134 ?_
          exact hret _ ls _ _ (M_66 42 0) M_66 L_66 dX9_told_137 rfl hw hW
        · replace hw := hw.2 c_88_1
          by_cases c_88_2 : x1 = (2 : Int32)
          · replace hw := hw.1 c_88_2
            refine lv_tableIn (tgt := 138) (off := 50) hx hb0 dX9_told_88 (by rw [c_88_2]; decide) (by rw [c_88_2]; decide) (by rw [c_88_2]; rfl) (by decide) ?_
            refine lv_aload_n hx hb0 dX9_told_138 rfl (lv_at hl 0 rfl) ?_
            refine z_getR (k2 := 50) X hW zC7 zR_42_8 (by decide) rfl zl_X9_31 dX9_told_139 ?_
            refine lv_iconst (v := (0 : Int32)) hx hb0 dX9_told_142 (by decide) ?_
            obtain ⟨g_143, hw⟩ := hw
            refine z_iald X hW zI_50 g_143 dX9_told_143 ?_
            exact hret _ ls _ _ (M_66 50 (0 : Int32).toNatClampNeg) M_66 L_66 dX9_told_144 rfl hw hW
          · replace hw := hw.2 c_88_2
            by_cases c_88_3 : x1 = (3 : Int32)
            · replace hw := hw.1 c_88_3
              refine lv_tableIn (tgt := 145) (off := 57) hx hb0 dX9_told_88 (by rw [c_88_3]; decide) (by rw [c_88_3]; decide) (by rw [c_88_3]; rfl) (by decide) ?_
              refine lv_aload_n hx hb0 dX9_told_145 rfl (lv_at hl 0 rfl) ?_
              refine z_getR (k2 := 50) X hW zC7 zR_42_8 (by decide) rfl zl_X9_31 dX9_told_146 ?_
              refine lv_iconst (v := (1 : Int32)) hx hb0 dX9_told_149 (by decide) ?_
              obtain ⟨g_150, hw⟩ := hw
              refine z_iald X hW zI_50 g_150 dX9_told_150 ?_
              exact hret _ ls _ _ (M_66 50 (1 : Int32).toNatClampNeg) M_66 L_66 dX9_told_151 rfl hw hW
            · replace hw := hw.2 c_88_3
              by_cases c_88_4 : x1 = (4 : Int32)
              · replace hw := hw.1 c_88_4
                refine lv_tableIn (tgt := 152) (off := 64) hx hb0 dX9_told_88 (by rw [c_88_4]; decide) (by rw [c_88_4]; decide) (by rw [c_88_4]; rfl) (by decide) ?_
                refine lv_aload_n hx hb0 dX9_told_152 rfl (lv_at hl 0 rfl) ?_
                refine z_getI X hW zC7 zF_42_11 (by decide) rfl zl_X9_245 dX9_told_153 ?_
                exact hret _ ls _ _ (M_66 42 11) M_66 L_66 dX9_told_156 rfl hw hW
              · replace hw := hw.2 c_88_4
                by_cases c_88_5 : x1 = (5 : Int32)
                · replace hw := hw.1 c_88_5
                  refine lv_tableIn (tgt := 157) (off := 69) hx hb0 dX9_told_88 (by rw [c_88_5]; decide) (by rw [c_88_5]; decide) (by rw [c_88_5]; rfl) (by decide) ?_
                  refine lv_aload_n hx hb0 dX9_told_157 rfl (lv_at hl 0 rfl) ?_
                  refine z_Vi X zO_42 zC7 zc_X9_riverNow zs_X9_riverNow zl_X9_213 rfl ⟨rfl, rfl⟩ ⟨Nat.le_of_ble_eq_true rfl, Nat.le_of_ble_eq_true rfl⟩ (kX9_riverNow l D cy ad X.2.2.2.1) hW hw hl.1 rfl rfl (Nat.le_of_ble_eq_true rfl) dX9_told_158 (fun r_158 M_158 L_158 H_158 locs_158 hw hW => ?_)
                  exact hret _ ls _ _ r_158 M_158 L_158 dX9_told_161 rfl hw hW
                · replace hw := hw.2 c_88_5
                  refine lv_tableOut (tgt := 162) hx hb0 dX9_told_88 (by have q0 : ¬ x1.toInt = 0 := lv_neT c_88_0 (by decide); have q1 : ¬ x1.toInt = 1 := lv_neT c_88_1 (by decide); have q2 : ¬ x1.toInt = 2 := lv_neT c_88_2 (by decide); have q3 : ¬ x1.toInt = 3 := lv_neT c_88_3 (by decide); have q4 : ¬ x1.toInt = 4 := lv_neT c_88_4 (by decide); have q5 : ¬ x1.toInt = 5 := lv_neT c_88_5 (by decide); omega) (by decide) ?_
                  refine lv_bipush (v := (-2 : Int32)) hx hb0 dX9_told_162 (by decide) ?_
                  exact hret _ ls _ _ (-2 : Int32) M_66 L_66 dX9_told_164 rfl hw hW
    · replace hw := hw.2 c_69
      refine lv_aload_n hx hb0 dX9_told_72 rfl (lv_at hl 0 rfl) ?_
      refine lv_iload_n hx hb0 dX9_told_73 rfl (lv_at hl 1 rfl) ?_
      refine lv_bipush (v := (10 : Int32)) hx hb0 dX9_told_74 (by decide) ?_
      refine lv_idiv hx hb0 dX9_told_76 (by decide) ?_
      refine lv_iconst (v := (1 : Int32)) hx hb0 dX9_told_77 (by decide) ?_
      refine lv_isub hx hb0 dX9_told_78 ?_
      refine lv_iload_n hx hb0 dX9_told_79 rfl (lv_at hl 1 rfl) ?_
      refine lv_bipush (v := (10 : Int32)) hx hb0 dX9_told_80 (by decide) ?_
      refine lv_irem hx hb0 dX9_told_82 (by decide) ?_
      refine z_Vi X zO_42 zC7 zc_X9_toldOf zs_X9_toldOf zl_X9_309 rfl ⟨rfl, rfl⟩ ⟨Nat.le_of_ble_eq_true rfl, Nat.le_of_ble_eq_true rfl⟩ (kX9_toldOf l D cy ad X.2.2.2.1 ((x1 / (10 : Int32)) - (1 : Int32)) (x1 - x1 / (10 : Int32) * (10 : Int32))) hW hw hl.1 rfl rfl (Nat.le_of_ble_eq_true rfl) dX9_told_83 (fun r_83 M_83 L_83 H_83 locs_83 hw hW => ?_)
      exact hret _ ls _ _ r_83 M_83 L_83 dX9_told_86 rfl hw hW
  · replace hw := hw.2 c_11
    refine lv_iload_n hx hb0 dX9_told_14 rfl (lv_at hl 1 rfl) ?_
    refine lv_bipush (v := (100 : Int32)) hx hb0 dX9_told_15 (by decide) ?_
    refine lv_isub hx hb0 dX9_told_17 ?_
    refine lv_bipush (v := (10 : Int32)) hx hb0 dX9_told_18 (by decide) ?_
    refine lv_idiv hx hb0 dX9_told_20 (by decide) ?_
    refine lv_topi (fun a_21 e_21 => ?_)
    replace hw := hw a_21 e_21
    refine lv_istore_n (lv' := [(2, .int a_21), (0, .ref (ad 42)), (1, .int x1)]) hx hb0 dX9_told_21 rfl hl (by decide) rfl (fun ls hl => ?_)
    refine lv_iload_n hx hb0 dX9_told_22 rfl (lv_at hl 2 rfl) ?_
    refine lv_bipush (v := (10 : Int32)) hx hb0 dX9_told_23 (by decide) ?_
    refine lv_irem hx hb0 dX9_told_25 (by decide) ?_
    refine lv_if_ne (tgt := 38) hx hb0 dX9_told_26 (by decide) (fun c_26 => ?_) (fun c_26 => ?_)
    · replace hw := hw.1 c_26
      refine lv_iload_n hx hb0 dX9_told_38 rfl (lv_at hl 2 rfl) ?_
      refine lv_bipush (v := (10 : Int32)) hx hb0 dX9_told_39 (by decide) ?_
      refine lv_irem hx hb0 dX9_told_41 (by decide) ?_
      refine lv_iconst (v := (1 : Int32)) hx hb0 dX9_told_42 (by decide) ?_
      refine lv_icmp_ne (tgt := 55) hx hb0 dX9_told_43 (by decide) (fun c_43 => ?_) (fun c_43 => ?_)
      · replace hw := hw.1 c_43
        refine lv_bipush (v := (-2 : Int32)) hx hb0 dX9_told_55 (by decide) ?_
        exact mX9_told_57 X post hret M_8 L_8 (-2 : Int32) _ _ ls hw hW (lv_sub hl [] rfl)
      · replace hw := hw.2 c_43
        refine lv_aload_n hx hb0 dX9_told_46 rfl (lv_at hl 1 rfl) ?_
        refine z_getR (k2 := 49) X hW zC7 zR_42_7 (by decide) rfl zl_X9_28 dX9_told_47 ?_
        refine lv_iload_n hx hb0 dX9_told_50 rfl (lv_at hl 0 rfl) ?_
        obtain ⟨g_51, hw⟩ := hw
        refine z_iald X hW zI_49 g_51 dX9_told_51 ?_
        refine lv_goto (tgt := 57) hx hb0 dX9_told_52 (by decide) ?_
        exact mX9_told_57 X post hret M_8 L_8 (M_8 49 a_21.toNatClampNeg) _ _ ls hw hW (lv_sub hl [] rfl)
    · replace hw := hw.2 c_26
      refine lv_aload_n hx hb0 dX9_told_29 rfl (lv_at hl 1 rfl) ?_
      refine z_getR (k2 := 48) X hW zC7 zR_42_6 (by decide) rfl zl_X9_25 dX9_told_30 ?_
      refine lv_iload_n hx hb0 dX9_told_33 rfl (lv_at hl 0 rfl) ?_
      obtain ⟨g_34, hw⟩ := hw
      refine z_iald X hW zI_48 g_34 dX9_told_34 ?_
      refine lv_goto (tgt := 57) hx hb0 dX9_told_35 (by decide) ?_
      exact mX9_told_57 X post hret M_8 L_8 (M_8 48 a_21.toNatClampNeg) _ _ ls hw hW (lv_sub hl [] rfl)
theorem kX9_told (l : Launch) (D : va_G) (cy : Nat → ClassId) (ad : Nat → Nat) (hi : zInj ad) (x1 : Int32) : zMi l yX9_told (.code yX9_told cX9_told 3 (some .int) :: zG) rmX9_told D cy ad [.ref (ad 42), .int x1] (wpX9_told x1) :=
  zMi_of (by decide +kernel) (Nat.le_of_ble_eq_true rfl) hi (fun X M L post _ hret ls hl hw hW => mX9_told X post hret M L x1 _ _ ls hw hW hl)
