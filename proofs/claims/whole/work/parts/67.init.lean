/-! SpoonTable's constructor: the table of wins, by the method that reads it while it grows -/
theorem kS_bit (l : Launch) (x1 x2 : Int32) (sz : Nat) : Met l yX8_bit (.code yX8_bit cX8_bit 2 (some .int) :: zG) rmX8_bit (va_Pc [.int x1, .int x2] (fun U => U.heap.size = sz)) (va_Qi (fun (r : Int32) (_ : Unit) => r = (x1 >>> (x2 &&& 31)) &&& (1 : Int32)) (fun _ _ => True) (fun q => sz ≤ q)) 0 0 (fun q => sz ≤ q) := by
  refine Met.ofW (cc := cX8_bit) (maxL := 2) (ret := some .int) (by decide +kernel) rfl ?_
  intro p e s m args below meth c s₁ B hml hv
  obtain ⟨rfl, hsz⟩ := hv
  subst hsz
  have hx := B.exec
  have hb0 := B.bytes
  have hl := lv_entry [.int x1, .int x2] (n := 2) (Nat.le_of_ble_eq_true rfl)
  rw [lg_entry_eq]
  have hlocks := B.notSynchronized
  generalize (lg_sl [.int x1, .int x2] ++ List.replicate (2 - (lg_sl [.int x1, .int x2]).length) Slot.unset).toArray = ls at hl ⊢
  have hl : lv_has ls 2 [(0, .int x1), (1, .int x2)] := hl
  refine lv_iload_n hx hb0 dX8_bit_0 rfl (lv_at hl 0 rfl) ?_
  refine lv_iload_n hx hb0 dX8_bit_1 rfl (lv_at hl 1 rfl) ?_
  refine lv_ishr hx hb0 dX8_bit_2 ?_
  refine lv_iconst (v := (1 : Int32)) hx hb0 dX8_bit_3 (by decide) ?_
  refine lv_iand hx hb0 dX8_bit_4 ?_
  exact W.zret (v := (x1 >>> (x2 &&& 31)) &&& (1 : Int32)) (ty := .int) hx hb0 B.returns rfl (fun t ht _ => ⟨⟨_, (), rfl, rfl, trivial⟩, (va_S.rf (A := fun q => s.heap.size ≤ q)).F ht⟩) (fun q h => by cases h) dX8_bit_5
def w6 (h0 a1 : Nat) (c1 : ClassId) (f : Nat → Int32) : va_W := [(h0, .inr (4, [.ref a1])), (a1, .inl (c1, 61, .inl f))]
set_option maxRecDepth 20000 in
set_option maxHeartbeats 4000000 in
theorem mS_take_2 (l : Launch) {p : Program} {e : Env} {s : State} {m : MethodId} {args : Array Value} {below : List Frame} {meth : Method} {c : Code} {Q : State → Prop} {D : va_G} {A : Nat → Prop} {h0 a1 : Nat} {c1 : ClassId} (S : CallFix p m c cX6_winningTake 4 s args zG RX6) (hN : zNs zN s) (hA : ∀ q, s.heap.size ≤ q → A q) (hK : va_K D vwCl [(c1, .int)] s) (M : Mm) (L : Ml) (post : Int32 → Mm → Ml → Prop)
    (hret : ∀ (pc : Nat) (ls : Array Slot) (H : Heap) (locs : List Loc) (r : Int32), decode cX6_winningTake pc = .ok (.ireturn, 1) → post r M L → va_P D vwCl (w6 h0 a1 c1 (M 13)) H → va_S A s.heap H locs → W p l e rmX6_winningTake s m args below meth c H locs 0 0 Q (F0 m pc ls [.int r])) :
    ∀ (j9 : Nat) (v1 v2 v3 : Int32) (H : Heap) (locs : List Loc) (ls : Array Slot), wlX6_winningTake_2 post j9 (M, L, v1, v2, v3) → va_P D vwCl (w6 h0 a1 c1 (M 13)) H → va_S A s.heap H locs → lv_has ls 4 [(0, .ref h0), (1, .int v1), (2, .int v2), (3, .int v3)] → W p l e rmX6_winningTake s m args below meth c H locs 0 0 Q (F0 m 2 ls []) := by
  have hx := S.1; have hb0 := S.2.1
  intro j9
  induction j9 with
  | zero => intro v1 v2 v3 H locs ls hw; exact hw.elim
  | succ j9 ih =>
    intro v1 v2 v3 H locs ls hw hP hS hl
    have hw : wpX6_winningTake_2 post (fun M L v1 v2 v3 => wlX6_winningTake_2 post j9 (M, L, v1, v2, v3)) M L v1 v2 v3 := hw
    unfold wpX6_winningTake_2 wpX6_winningTake_34 wpX6_winningTake_40 at hw
    have h34 : ∀ (H : Heap) (locs : List Loc) (ls : Array Slot), (∀ a_34 : Int32, a_34 = v3 + (1 : Int32) → wlX6_winningTake_2 post j9 (M, L, v1, v2, a_34)) → va_P D vwCl (w6 h0 a1 c1 (M 13)) H → va_S A s.heap H locs → lv_has ls 4 [(0, .ref h0), (1, .int v1), (2, .int v2), (3, .int v3)] → W p l e rmX6_winningTake s m args below meth c H locs 0 0 Q (F0 m 34 ls []) := by
      intro H locs ls hw hP hS hl
      refine lv_iinc (v := v3 + (1 : Int32)) (lv' := [(3, .int (v3 + (1 : Int32))), (0, .ref h0), (1, .int v1), (2, .int v2)]) hx hb0 dX6_winningTake_34 hl (k := 3) rfl rfl (by decide) rfl (fun ls hl => ?_)
      refine lv_goto (tgt := 2) hx hb0 dX6_winningTake_37 (by decide) ?_
      exact ih _ _ _ _ _ _ (hw _ rfl) hP hS (lv_sub hl [1, 2, 3, 0] rfl)
    have h40 : ∀ (H : Heap) (locs : List Loc) (ls : Array Slot), post (-6 : Int32) M L → va_P D vwCl (w6 h0 a1 c1 (M 13)) H → va_S A s.heap H locs → W p l e rmX6_winningTake s m args below meth c H locs 0 0 Q (F0 m 40 ls []) := by
      intro H locs ls hw hP hS
      refine lv_bipush (v := (-6 : Int32)) hx hb0 dX6_winningTake_40 (by decide) ?_
      exact hret _ ls _ _ (-6 : Int32) dX6_winningTake_42 hw hP hS
    refine lv_iload_n hx hb0 dX6_winningTake_2 rfl (lv_at hl 3 rfl) ?_
    refine lv_iconst (v := (3 : Int32)) hx hb0 dX6_winningTake_3 (by decide) ?_
    refine lv_icmp_gt (tgt := 40) hx hb0 dX6_winningTake_4 (by decide) (fun c_4 => ?_) (fun c_4 => ?_)
    · exact h40 _ _ ls (hw.1 c_4) hP hS
    · replace hw := hw.2 c_4
      refine lv_iload_n hx hb0 dX6_winningTake_7 rfl (lv_at hl 3 rfl) ?_
      refine lv_iload_n hx hb0 dX6_winningTake_8 rfl (lv_at hl 1 rfl) ?_
      refine lv_icmp_gt (tgt := 40) hx hb0 dX6_winningTake_9 (by decide) (fun c_9 => ?_) (fun c_9 => ?_)
      · exact h40 _ _ ls (hw.1 c_9) hP hS
      · replace hw := hw.2 c_9
        refine lv_iload_n hx hb0 dX6_winningTake_12 rfl (lv_at hl 3 rfl) ?_
        refine lv_iload_n hx hb0 dX6_winningTake_13 rfl (lv_at hl 2 rfl) ?_
        refine lv_icmp_eq (tgt := 34) hx hb0 dX6_winningTake_14 (by decide) (fun c_14 => ?_) (fun c_14 => ?_)
        · exact h34 _ _ ls (hw.1 c_14) hP hS hl
        · replace hw := hw.2 c_14
          refine lv_aload_n hx hb0 dX6_winningTake_17 rfl (lv_at hl 0 rfl) ?_
          refine va_get (v := .ref a1) hx hb0 S.2.2.2.2 zC4.2.1 S.2.2.2.1 hK hP 0 rfl zC4.1 0 (by decide) (S.2.2.2.2 _ zl_X6_9) (fun x h => h) rfl dX6_winningTake_18 ?_
          refine lv_iload_n hx hb0 dX6_winningTake_21 rfl (lv_at hl 1 rfl) ?_
          refine lv_iload_n hx hb0 dX6_winningTake_22 rfl (lv_at hl 3 rfl) ?_
          refine lv_isub hx hb0 dX6_winningTake_23 ?_
          obtain ⟨g_24, hw⟩ := hw
          refine va_iald hx hb0 hK hP 1 0 rfl rfl g_24 dX6_winningTake_24 ?_
          refine lv_iload_n hx hb0 dX6_winningTake_25 rfl (lv_at hl 3 rfl) ?_
          have hPre : PreS s H (va_Pc [.int (M 13 (v1 - v3).toNatClampNeg), .int v3] (fun U => U.heap.size = H.size)) [.int (M 13 (v1 - v3).toNatClampNeg), .int v3] := ⟨fun a U g mk q => ⟨q.1, q.2⟩, fun U hU _ => ⟨rfl, by show U.heap.size = H.size; rw [hU]⟩⟩
          refine va_calli (va_runSN S (kS_bit l (M 13 (v1 - v3).toNatClampNeg) v3 H.size) ⟨va_cnB 2 S.2.2.2.2 (z_good zc_X8_bit.1) rfl rfl rfl (hN _ zn_X6_19) (S.2.2.2.2 _ zc_X8_bit.2.1) ⟨zc_X8_bit.2.2.1, zc_X8_bit.2.2.2, rfl⟩ ⟨Nat.le_of_ble_eq_true rfl, Nat.le_of_ble_eq_true rfl⟩, S.2.2.2.2 _ zt_X8_bit, trivial⟩ hPre rfl rfl hl.1 rfl (lv_room (Nat.le_of_ble_eq_true rfl)) dX6_winningTake_26 ⟨Nat.le_of_ble_eq_true rfl, Nat.le_of_ble_eq_true rfl⟩) hS (fun q _ h => hA q (Nat.le_trans hS.1 h)) (fun q h => hA q (Nat.le_trans hS.1 h)) (fun r u t H1 locs1 ht _ hr _ hz hk hS1 => ?_)
          have hP1 : va_P D vwCl (w6 h0 a1 c1 (M 13)) H1 := hP.kept (fun k q hq => hk q.1 ((hP k q hq).lt) (by have := (hP k q hq).lt; omega))
          subst hr
          have hw : (¬ ((M 13 (v1 - v3).toNatClampNeg >>> (v3 &&& 31)) &&& (1 : Int32)) = 0 → ∀ a_34 : Int32, a_34 = v3 + (1 : Int32) → wlX6_winningTake_2 post j9 (M, L, v1, v2, a_34)) ∧ (((M 13 (v1 - v3).toNatClampNeg >>> (v3 &&& 31)) &&& (1 : Int32)) = 0 → post v3 M L) := hw
          refine lv_if_ne (tgt := 34) hx hb0 dX6_winningTake_29 (by decide) (fun c_29 => ?_) (fun c_29 => ?_)
          · exact h34 _ _ ls (hw.1 c_29) hP1 hS1 hl
          · refine lv_iload_n hx hb0 dX6_winningTake_32 rfl (lv_at hl 3 rfl) ?_
            exact hret _ ls _ _ v3 dX6_winningTake_33 (hw.2 c_29) hP1 hS1
theorem kS_take (l : Launch) (D : va_G) (h0 a1 : Nat) (c1 : ClassId) (x1 x2 : Int32) (sz : Nat) (M : Mm) (L : Ml) (post : Int32 → Mm → Ml → Prop) : Met l yX6_winningTake (.code yX6_winningTake cX6_winningTake 4 (some .int) :: zG) rmX6_winningTake (va_Pc [.ref h0, .int x1, .int x2] (fun U => U.heap.size = sz ∧ va_P D vwCl (w6 h0 a1 c1 (M 13)) U.heap ∧ va_K D vwCl [(c1, .int)] U ∧ zNs zN U ∧ wpX6_winningTake x1 x2 M L post)) (va_Qi (fun (r : Int32) (_ : Unit) => post r M L) (fun _ t => va_P D vwCl (w6 h0 a1 c1 (M 13)) t.heap) (fun q => sz ≤ q)) 0 0 (fun q => sz ≤ q) := by
  refine Met.ofW (cc := cX6_winningTake) (maxL := 4) (ret := some .int) (by decide +kernel) rfl ?_
  intro p e s m args below meth c s₁ B hml hv
  obtain ⟨rfl, hsz, hP, hK, hN, hw⟩ := hv
  subst hsz
  have hts := atoms_spec (ws := Cond.code yX6_winningTake cX6_winningTake 4 (some .int) :: zG) B.pre
  have hown : s.vm.findClass RX6 = some m.cls := findClass_of_methodNamed B.named
  have S : CallFix p m c cX6_winningTake 4 s [Value.ref h0, .int x1, .int x2].toArray zG RX6 := ⟨B.exec, B.bytes, hml, hown, fun w h => hts w (List.mem_cons_of_mem _ h)⟩
  have hx := S.1; have hb0 := S.2.1
  have hl := lv_entry [.ref h0, .int x1, .int x2] (n := 4) (Nat.le_of_ble_eq_true rfl)
  rw [lg_entry_eq]
  have hlocks := B.notSynchronized
  generalize (lg_sl [.ref h0, .int x1, .int x2] ++ List.replicate (4 - (lg_sl [.ref h0, .int x1, .int x2]).length) Slot.unset).toArray = ls at hl ⊢
  have hl : lv_has ls 4 [(0, .ref h0), (1, .int x1), (2, .int x2)] := hl
  unfold wpX6_winningTake at hw
  refine lv_iconst (v := (1 : Int32)) hx hb0 dX6_winningTake_0 (by decide) ?_
  refine lv_istore_n (lv' := [(3, .int (1 : Int32)), (0, .ref h0), (1, .int x1), (2, .int x2)]) hx hb0 dX6_winningTake_1 rfl hl (by decide) rfl (fun ls hl => ?_)
  obtain ⟨n_2, hw⟩ := hw
  exact mS_take_2 l S hN (A := fun q => s.heap.size ≤ q) (fun q h => h) hK M L post (fun pc ls H locs r hd hp hP1 hS1 => W.zret (v := r) (ty := .int) hx hb0 B.returns rfl (fun t ht _ => ⟨⟨r, (), rfl, hp, by show va_P _ _ _ t.heap; rw [ht]; exact hP1⟩, hS1.F ht⟩) hS1.2.2 hd) n_2 x1 x2 (1 : Int32) _ _ ls hw hP va_S.rf (lv_sub hl [1, 2, 3, 0] rfl)
def gOK (g : Nat → Int32) : Prop := ∀ n, n < 61 → g n = nI (wnW (wlW n))
abbrev rmX6_init : Room := { frames := 2, cells := 1, slots := 61, locals := 44 }
def wX6 (ad : Nat → Nat) (cy : Nat → ClassId) (g : Nat → Int32) : va_W := w6 (ad 0) (ad 1) (cy 1) g
def tX6 (cy : Nat → ClassId) : List (ClassId × FieldType) := [(cy 1, .int)]
def pW (n : Nat) : Nat → Bool := fun j => decide (¬ tkW (wlW n) j = 0)
/-- what the table is while the row n grows: the rows below stand, the rows above are empty -/
def gUp (n : Nat) (f : Nat → Int32) : Prop := (∀ i, i < n → f i = nI (wnW (wlW i))) ∧ ∀ i, n < i → i < 61 → f i = 0
set_option maxRecDepth 20000 in
set_option maxHeartbeats 4000000 in
theorem iX6_in (l : Launch) {p : Program} {e : Env} {s : State} {m : MethodId} {args : Array Value} {below : List Frame} {meth : Method} {c : Code} {Q : State → Prop} {D : va_G} {A : Nat → Prop} {h0 a1 : Nat} {c1 : ClassId} (J : zJ p s m args meth c cX6_init 3 RX6 A) {n : Nat} (hn : n < 61)
    (hnext : ∀ (f : Nat → Int32) (H : Heap) (locs : List Loc) (ls : Array Slot), gUp n f → f n = nI (wnW (wlW n)) → zB D A s H locs (w6 h0 a1 c1 f) [(c1, .int)] → lv_has ls 3 [(0, .ref h0), (1, .int (nI n))] → W p l e rmX6_init s m args below meth c H locs 1 61 Q (F0 m 56 ls [])) :
    ∀ (d j : Nat), j + d = 4 → ∀ (f : Nat → Int32) (H : Heap) (locs : List Loc) (ls : Array Slot), gUp n f → f n = nI (zbs (pW n) j) → zB D A s H locs (w6 h0 a1 c1 f) [(c1, .int)] → lv_has ls 3 [(0, .ref h0), (1, .int (nI n)), (2, .int (nI j))] → W p l e rmX6_init s m args below meth c H locs 1 61 Q (F0 m 22 ls []) := by
  have S := J.1
  have hx := S.1; have hb0 := S.2.1
  have en : (nI n).toNatClampNeg = n := nI_clamp (by omega)
  intro d
  induction d with
  | zero =>
    intro j hj f H locs ls hf hfn hW hl
    have hj4 : j = 4 := by omega
    subst hj4
    refine lv_iload_n hx hb0 dX6_init_22 rfl (lv_at hl 2 rfl) ?_
    refine lv_iconst (v := (3 : Int32)) hx hb0 dX6_init_23 (by decide) ?_
    refine lv_icmp_gt (tgt := 56) hx hb0 dX6_init_24 (by decide) (fun _ => ?_) (fun c9 => absurd (show (3 : Int32) < nI 4 by decide) c9)
    exact hnext f _ _ ls hf hfn hW (lv_sub hl [0, 1] rfl)
  | succ d ih =>
    intro j hj f H locs ls hf hfn hW hl
    have hj4 : j < 4 := by omega
    have h50 : ∀ (f : Nat → Int32) (H : Heap) (locs : List Loc), gUp n f → f n = nI (zbs (pW n) (j + 1)) → zB D A s H locs (w6 h0 a1 c1 f) [(c1, .int)] → W p l e rmX6_init s m args below meth c H locs 1 61 Q (F0 m 50 ls []) := by
      intro f H locs hf hfn hW
      refine lv_iinc (v := nI (j + 1)) (lv' := [(2, .int (nI (j + 1))), (0, .ref h0), (1, .int (nI n))]) hx hb0 dX6_init_50 hl (k := 2) rfl (nI_1 j) (by decide) rfl (fun ls hl => ?_)
      refine lv_goto (tgt := 22) hx hb0 dX6_init_53 (by decide) ?_
      exact ih (j + 1) (by omega) f _ _ ls hf hfn hW (lv_sub hl [1, 2, 0] rfl)
    have c9 : ¬ (3 : Int32) < nI j := nI_nlt (a := 3) (b := j) (by omega) (by decide)
    refine lv_iload_n hx hb0 dX6_init_22 rfl (lv_at hl 2 rfl) ?_
    refine lv_iconst (v := (3 : Int32)) hx hb0 dX6_init_23 (by decide) ?_
    refine lv_icmp_gt (tgt := 56) hx hb0 dX6_init_24 (by decide) (fun c => absurd c c9) (fun _ => ?_)
    refine lv_aload_n hx hb0 dX6_init_27 rfl (lv_at hl 0 rfl) ?_
    refine lv_iload_n hx hb0 dX6_init_28 rfl (lv_at hl 1 rfl) ?_
    refine lv_iload_n hx hb0 dX6_init_29 rfl (lv_at hl 2 rfl) ?_
    have hwp : wpX6_winningTake (nI n) (nI j) (fun _ => f) (fun _ _ => 0) (fun r _ _ => r = (if tkW (wlW n) j = 0 then -6 else nI (tkW (wlW n) j))) := sX6_winningTake (by omega) hj4 hf.1 rfl
    have hPre : PreV s H RX6 h0 (va_Pc [.ref h0, .int (nI n), .int (nI j)] (fun U => U.heap.size = H.size ∧ va_P D vwCl (w6 h0 a1 c1 f) U.heap ∧ va_K D vwCl [(c1, .int)] U ∧ zNs zN U ∧ wpX6_winningTake (nI n) (nI j) (fun _ => f) (fun _ _ => 0) (fun r _ _ => r = (if tkW (wlW n) j = 0 then -6 else nI (tkW (wlW n) j))))) [.int (nI n), .int (nI j)] := ⟨fun a U g mk q => by
      obtain ⟨q0, q1, qP, qK, qN, qw⟩ := q
      exact ⟨q0, q1, qP, va_K.moved (u := U) (U := U.calling g mk a) (Vm.Alike.refl U.vm) qK, zNs_same (u := U) (U := U.calling g mk a) rfl qN, qw⟩, va_recv hW.2.2.2 hW.1 zC4.1 (q0 := 0) rfl, fun U hU hWm => ⟨rfl, by rw [hU], by rw [hU]; exact hW.1, va_K.moved hWm.alike hW.2.2.2, zNs_moved hWm J.2.1, hwp⟩⟩
    refine va_calli (va_runV S (kS_take l D h0 a1 c1 (nI n) (nI j) H.size (fun _ => f) (fun _ _ => 0) (fun r _ _ => r = (if tkW (wlW n) j = 0 then -6 else nI (tkW (wlW n) j)))) ⟨callB_of 2 S.2.2.2.2 (z_good zc_X6_winningTake.1) rfl rfl rfl (S.2.2.2.2 _ zc_X6_winningTake.2.1) (S.2.2.2.2 _ zl_X6_15) ⟨zc_X6_winningTake.2.2.1, zc_X6_winningTake.2.2.2, rfl⟩ ⟨Nat.le_of_ble_eq_true rfl, Nat.le_of_ble_eq_true rfl⟩, S.2.2.2.2 _ zs_X6_winningTake.1, S.2.2.2.2 _ zs_X6_winningTake.2⟩ hPre rfl rfl hl.1 rfl (lv_room (Nat.le_of_ble_eq_true rfl)) dX6_init_30 ⟨Nat.le_of_ble_eq_true rfl, Nat.le_of_ble_eq_true rfl⟩) hW.2.2.1 (fun q _ h => J.2.2.2.1 q (Nat.le_trans hW.2.2.1.1 h)) (fun q h => J.2.2.2.1 q (Nat.le_trans hW.2.2.1.1 h)) (fun r u t H1 locs1 ht _ hr hB _ _ hS1 => ?_)
    have hr : r = (if tkW (wlW n) j = 0 then -6 else nI (tkW (wlW n) j)) := hr
    have hB : va_P D vwCl (w6 h0 a1 c1 f) t.heap := hB
    rw [ht] at hB
    have hW1 : zB D A s H1 locs1 (w6 h0 a1 c1 f) [(c1, .int)] := ⟨hB, hW.2.1, hS1, hW.2.2.2⟩
    refine lv_bipush (v := (-6 : Int32)) hx hb0 dX6_init_33 (by decide) ?_
    by_cases htk : tkW (wlW n) j = 0
    · rw [if_pos htk] at hr
      subst hr
      refine lv_icmp_eq (tgt := 50) hx hb0 dX6_init_35 (by decide) (fun _ => ?_) (fun c => absurd rfl c)
      exact h50 f _ _ hf (by rw [hfn, zbs_f (P := pW n) (k := j) (by unfold pW; simp [htk])]) hW1
    · rw [if_neg htk] at hr
      subst hr
      have h4 := tkW_lt n j
      refine lv_icmp_eq (tgt := 50) hx hb0 dX6_init_35 (by decide) (fun c => absurd c (nI_ne6 (by omega))) (fun _ => ?_)
      refine lv_aload_n hx hb0 dX6_init_38 rfl (lv_at hl 0 rfl) ?_
      refine j_get (k := 0) (v := .ref a1) J hW1 zC4 0 rfl 0 (by decide) rfl zl_X6_9 rfl dX6_init_39 ?_
      refine lv_iload_n hx hb0 dX6_init_42 rfl (lv_at hl 1 rfl) ?_
      refine lv_dup2_11 hx hb0 dX6_init_43 rfl rfl ?_
      refine j_iald J hW1 1 0 rfl rfl (vp_in_nI hn (by decide)) dX6_init_44 ?_
      refine lv_iconst (v := (1 : Int32)) hx hb0 dX6_init_45 (by decide) ?_
      refine lv_iload_n hx hb0 dX6_init_46 rfl (lv_at hl 2 rfl) ?_
      refine lv_ishl hx hb0 dX6_init_47 ?_
      refine lv_ior hx hb0 dX6_init_48 ?_
      refine j_iast J hW1 1 0 rfl rfl (vp_in_nI hn (by decide)) dX6_init_49 (fun H2 locs2 hW2 => ?_)
      rw [en, hfn, z_or_bs (by omega)] at hW2
      refine h50 (upd f n (nI (2 ^ j + zbs (pW n) j))) _ _ ⟨fun i hi => ?_, fun i hi h61 => ?_⟩ ?_ hW2
      · rw [show upd f n (nI (2 ^ j + zbs (pW n) j)) i = f i from if_neg (by omega)]
        exact hf.1 i hi
      · rw [show upd f n (nI (2 ^ j + zbs (pW n) j)) i = f i from if_neg (by omega)]
        exact hf.2 i hi h61
      · rw [show upd f n (nI (2 ^ j + zbs (pW n) j)) n = nI (2 ^ j + zbs (pW n) j) from if_pos rfl, zbs_t (P := pW n) (k := j) (by unfold pW; simp [htk])]
set_option maxRecDepth 20000 in
set_option maxHeartbeats 4000000 in
theorem iX6_out (l : Launch) {p : Program} {e : Env} {s : State} {m : MethodId} {args : Array Value} {below : List Frame} {meth : Method} {c : Code} {Q : State → Prop} {D : va_G} {A : Nat → Prop} {h0 a1 : Nat} {c1 : ClassId} (J : zJ p s m args meth c cX6_init 3 RX6 A)
    (hend : ∀ (f : Nat → Int32) (H : Heap) (locs : List Loc) (ls : Array Slot), gOK f → zB D A s H locs (w6 h0 a1 c1 f) [(c1, .int)] → W p l e rmX6_init s m args below meth c H locs 1 61 Q (F0 m 62 ls [])) :
    ∀ (d n : Nat), n + d = 61 → ∀ (f : Nat → Int32) (H : Heap) (locs : List Loc) (ls : Array Slot), (∀ i, i < n → f i = nI (wnW (wlW i))) → (∀ i, n ≤ i → i < 61 → f i = 0) → zB D A s H locs (w6 h0 a1 c1 f) [(c1, .int)] → lv_has ls 3 [(0, .ref h0), (1, .int (nI n))] → W p l e rmX6_init s m args below meth c H locs 1 61 Q (F0 m 14 ls []) := by
  have S := J.1
  have hx := S.1; have hb0 := S.2.1
  intro d
  induction d with
  | zero =>
    intro n hn f H locs ls hf _ hW hl
    have hn : n = 61 := by omega
    subst hn
    refine lv_iload_n hx hb0 dX6_init_14 rfl (lv_at hl 1 rfl) ?_
    refine lv_bipush (v := (60 : Int32)) hx hb0 dX6_init_15 (by decide) ?_
    refine lv_icmp_gt (tgt := 62) hx hb0 dX6_init_17 (by decide) (fun _ => ?_) (fun c9 => absurd (show (60 : Int32) < nI 61 by decide) c9)
    exact hend f _ _ ls hf hW
  | succ d ih =>
    intro n hn f H locs ls hf hf0 hW hl
    have hn61 : n < 61 := by omega
    have c9 : ¬ (60 : Int32) < nI n := nI_nlt (a := 60) (b := n) (by omega) (by decide)
    refine lv_iload_n hx hb0 dX6_init_14 rfl (lv_at hl 1 rfl) ?_
    refine lv_bipush (v := (60 : Int32)) hx hb0 dX6_init_15 (by decide) ?_
    refine lv_icmp_gt (tgt := 62) hx hb0 dX6_init_17 (by decide) (fun c => absurd c c9) (fun _ => ?_)
    refine lv_iconst (v := nI 0) hx hb0 dX6_init_20 (by decide) ?_
    refine lv_istore_n (lv' := [(2, .int (nI 0)), (0, .ref h0), (1, .int (nI n))]) hx hb0 dX6_init_21 rfl hl (by decide) rfl (fun ls hl => ?_)
    refine iX6_in l J hn61 (fun f H locs ls hf hfn hW hl => ?_) 4 0 rfl f _ _ ls ⟨hf, fun i h1 h2 => hf0 i (by omega) h2⟩ ?_ hW (lv_sub hl [1, 2, 0] rfl)
    · refine lv_iinc (v := nI (n + 1)) (lv' := [(1, .int (nI (n + 1))), (0, .ref h0)]) hx hb0 dX6_init_56 hl (k := 1) rfl (nI_1 n) (by decide) rfl (fun ls hl => ?_)
      refine lv_goto (tgt := 14) hx hb0 dX6_init_59 (by decide) ?_
      refine ih (n + 1) (by omega) f _ _ ls (fun i hi => ?_) (fun i h1 h2 => hf.2 i (by omega) h2) hW (lv_sub hl [1, 0] rfl)
      by_cases q : i = n
      · subst q; exact hfn
      · exact hf.1 i (by omega)
    · rw [hf0 n (by omega) hn61]
      rfl
theorem iX6 (l : Launch) (D : va_G) (h0 : Nat) : zIc (S := (Nat → Nat) × (Nat → ClassId) × (Nat → Int32)) l yX6_init cX6_init 3 rmX6_init D h0 [(h0, .inr (4, [.null]))] (fun u => u.1 0 = h0 ∧ gOK u.2.2) (fun u => wX6 u.1 u.2.1 u.2.2) (fun u => tX6 u.2.1) 1 61 := by
  refine zIc_of (by decide +kernel) rfl (Nat.le_of_ble_eq_true rfl) ?_
  intro p e s m args below meth c J Q hret ls hl hW
  have hx := J.1.1; have hb0 := J.1.2.1
  have hl : lv_has ls 3 [(0, .ref h0)] := hl
  refine lv_aload_n hx hb0 dX6_init_0 rfl (lv_at hl 0 rfl) ?_
  refine j_obj J zl_X6_3 hl.1 (Nat.le_of_ble_eq_true rfl) (Nat.le_of_ble_eq_true rfl) dX6_init_1 ?_
  refine lv_aload_n hx hb0 dX6_init_4 rfl (lv_at hl 0 rfl) ?_
  refine lv_bipush (v := (61 : Int32)) hx hb0 dX6_init_5 (by decide) ?_
  refine j_newa (atype := .int) (a0 := (61, .inl (fun _ => 0))) (ty := .int) J hW zw_acint rfl (fun _ => rfl) (by decide) (by decide) (by decide) (Nat.le_of_ble_eq_true rfl) (Nat.le_of_ble_eq_true rfl) dX6_init_7 (fun q7 c7 H hW => ?_)
  refine j_putF (ty := (.array .int)) J hW zC4 0 rfl 0 (by decide) rfl zl_X6_9 rfl rfl (by decide +kernel) rfl rfl (Nat.le_of_ble_eq_true rfl) dX6_init_9 (fun H locs hW => ?_)
  have hW : zB D (va_A [(h0, .inr (4, [.null]))] s.heap.size) s H locs (w6 h0 q7 c7 (fun _ => 0)) [(c7, .int)] := hW
  refine lv_iconst (v := nI 0) hx hb0 dX6_init_12 (by decide) ?_
  refine lv_istore_n (lv' := [(1, .int (nI 0)), (0, .ref h0)]) hx hb0 dX6_init_13 rfl hl (by decide) rfl (fun ls hl => ?_)
  exact iX6_out l J (fun f H locs ls hf hW => hret _ ls _ _ (fun k => ([h0, q7] : List Nat).getD k 0, fun _ => c7, f) dX6_init_62 ⟨rfl, hf⟩ hW) 61 0 rfl _ _ _ ls (fun i h => absurd h (by omega)) (fun _ _ _ => rfl) hW (lv_sub hl [1, 0] rfl)
