/-! calls over the one world, the start and the end of a method -/
section ZC
variable {p : Program} {l : Launch} {e : Env} {R : Room} {s : State} {m : MethodId} {args : Array Value} {below : List Frame} {meth : Method} {c : Code} {cells slots : Nat} {Q : State → Prop} {cc : ByteArray} {nL : Nat} {own : String} {D : va_G} {cy : Nat → ClassId} {ad : Nat → Nat} {A : Nat → Prop}
variable {H : Heap} {locs : List Loc} {M : Mm} {L : Ml} {pc : Nat} {ls : Array Slot} {rest st : List Value} {y : MethodName} {bytes : ByteArray} {maxL : Nat} {ret : Option FieldType} {rm : Room} {n index k : Nat} {As : List Value} {h : Prop} {Qc : Array Value → State → Outcome → State → Prop} {free : Addr → Prop}
theorem zNs_same {u U : State} (h : u.vm = U.vm) (hz : zNs zN u) : zNs zN U := by
  intro w hw
  have h1 := hz w hw
  rcases zN_nest w hw with ⟨a, i, b, n, d, g, rfl⟩ | ⟨a, i, x, g, rfl⟩
  · exact va_Nw.same rfl h h1
  · exact va_Nw.same rfl h h1
theorem z_preS (X : zCx p R s m args c cells slots cc nL own D cy ad A) (hW : zWd D cy ad A s H locs M L) (hh : h) : PreS s H (va_Pc As (zPre D cy ad H.size M L h)) As :=
  ⟨fun a U g mk q => by
    obtain ⟨q0, q1, qK, qN, qP, qh⟩ := q
    exact ⟨q0, q1, va_K.moved (u := U) (U := U.calling g mk a) (Vm.Alike.refl U.vm) qK, zNs_same (u := U) (U := U.calling g mk a) rfl qN, qP, qh⟩,
   fun U hU hWm => ⟨rfl, by rw [hU], va_K.moved hWm.alike X.2.1, zNs_moved hWm X.2.2.1, by rw [hU]; exact hW.1, hh⟩⟩
theorem z_preV {ci N : Nat} {C : String} {T : u_T} (X : zCx p R s m args c cells slots cc nL own D cy ad A) (hW : zWd D cy ad A s H locs M L) (hh : h) (hO : zOb ci k) (hC : zCl ci C T N) : PreV s H C (ad k) (va_Pc (.ref (ad k) :: As) (zPre D cy ad H.size M L h)) As := by
  obtain ⟨fs, h1⟩ := hO
  obtain ⟨g1, g2⟩ := z_preS (As := .ref (ad k) :: As) X hW hh
  exact ⟨g1, va_recv X.2.1 hW.1 hC.1 (h1 cy ad M L), g2⟩
theorem z_free (X : zCx p R s m args c cells slots cc nL own D cy ad A) (hW : zWd D cy ad A s H locs M L) : ∀ q, zA ad H.size q → A q := by
  intro q hq
  rcases hq with ⟨k, hk, rfl⟩ | hq
  · exact X.2.2.2.2.2.1 k hk
  · exact X.2.2.2.2.1 q (Nat.le_trans hW.2.1 hq)
theorem z_runS (X : zCx p R s m args c cells slots cc nL own D cy ad A) (hc : zCal y bytes maxL ret) (hst : Cond.static y ∈ zG) (hlk : Cond.methodLink own index y ∈ zG) (hn : (parseMethodDescriptor y.desc).map (fun d => d.parameters.length) = some n) (hrm : rm.cells = 0 ∧ rm.slots = 0) (hR : rm.frames + 1 ≤ R.frames ∧ 8 + (maxL + 11) + rm.locals ≤ R.locals) (hM : Met l y (.code y bytes maxL ret :: zG) rm (va_Pc As (zPre D cy ad H.size M L h)) Qc 0 0 free) (hW : zWd D cy ad A s H locs M L) (hh : h) (hls : ls.size = nL) (hAn : As.length = n) (hstk : st = As.reverse ++ rest) (hsum : (rest.map fun v => v.category).sum ≤ 8) (hdg : decode cc pc = .ok (.invokestatic index, 3)) :
    va_Run p l e R s m args below meth c H locs cells slots 0 0 (F0 m pc ls st) rest (Qc As.toArray) free :=
  va_runS X.1 hM ⟨callB_of n X.1.2.2.2.2 (z_good hc.1) rfl hrm.1 hrm.2 (X.1.2.2.2.2 _ hc.2.1) (X.1.2.2.2.2 _ hlk) ⟨hc.2.2.1, hc.2.2.2, hn⟩ hR, X.1.2.2.2.2 _ hst⟩ (z_preS X hW hh) rfl hAn hls hstk (lv_room hsum) hdg ⟨X.2.2.2.2.2.2.1, X.2.2.2.2.2.2.2⟩
theorem z_runV {ci N : Nat} {T : u_T} (X : zCx p R s m args c cells slots cc nL own D cy ad A) (hO : zOb ci k) (hC : zCl ci y.cls T N) (hc : zCal y bytes maxL ret) (hst : zSel y) (hlk : Cond.methodLink own index y ∈ zG) (hn : (parseMethodDescriptor y.desc).map (fun d => d.parameters.length) = some n) (hrm : rm.cells = 0 ∧ rm.slots = 0) (hR : rm.frames + 1 ≤ R.frames ∧ 8 + (maxL + 11) + rm.locals ≤ R.locals) (hM : Met l y (.code y bytes maxL ret :: zG) rm (va_Pc (.ref (ad k) :: As) (zPre D cy ad H.size M L h)) Qc 0 0 free) (hW : zWd D cy ad A s H locs M L) (hh : h) (hls : ls.size = nL) (hAn : As.length = n) (hstk : st = As.reverse ++ .ref (ad k) :: rest) (hsum : (rest.map fun v => v.category).sum ≤ 8) (hdg : decode cc pc = .ok (.invokevirtual index, 3)) :
    va_Run p l e R s m args below meth c H locs cells slots 0 0 (F0 m pc ls st) rest (Qc (Value.ref (ad k) :: As).toArray) free :=
  va_runV X.1 hM ⟨callB_of n X.1.2.2.2.2 (z_good hc.1) rfl hrm.1 hrm.2 (X.1.2.2.2.2 _ hc.2.1) (X.1.2.2.2.2 _ hlk) ⟨hc.2.2.1, hc.2.2.2, hn⟩ hR, X.1.2.2.2.2 _ hst.1, X.1.2.2.2.2 _ hst.2⟩ (z_preV X hW hh hO hC) rfl hAn hls hstk (lv_room hsum) hdg ⟨X.2.2.2.2.2.2.1, X.2.2.2.2.2.2.2⟩
theorem z_runSN {host : String} (X : zCx p R s m args c cells slots cc nL own D cy ad A) (hc : zCal y bytes maxL ret) (hst : Cond.static y ∈ zG) (hlk : Cond.methodLinkNest own index y host ∈ zN) (hn : (parseMethodDescriptor y.desc).map (fun d => d.parameters.length) = some n) (hrm : rm.cells = 0 ∧ rm.slots = 0) (hR : rm.frames + 1 ≤ R.frames ∧ 8 + (maxL + 11) + rm.locals ≤ R.locals) (hM : Met l y (.code y bytes maxL ret :: zG) rm (va_Pc As (zPre D cy ad H.size M L h)) Qc 0 0 free) (hW : zWd D cy ad A s H locs M L) (hh : h) (hls : ls.size = nL) (hAn : As.length = n) (hstk : st = As.reverse ++ rest) (hsum : (rest.map fun v => v.category).sum ≤ 8) (hdg : decode cc pc = .ok (.invokestatic index, 3)) :
    va_Run p l e R s m args below meth c H locs cells slots 0 0 (F0 m pc ls st) rest (Qc As.toArray) free :=
  va_runSN X.1 hM ⟨va_cnB n X.1.2.2.2.2 (z_good hc.1) rfl hrm.1 hrm.2 (X.2.2.1 _ hlk) (X.1.2.2.2.2 _ hc.2.1) ⟨hc.2.2.1, hc.2.2.2, hn⟩ hR, X.1.2.2.2.2 _ hst, trivial⟩ (z_preS X hW hh) rfl hAn hls hstk (lv_room hsum) hdg ⟨X.2.2.2.2.2.2.1, X.2.2.2.2.2.2.2⟩
theorem z_runVN {ci N : Nat} {T : u_T} {host : String} (X : zCx p R s m args c cells slots cc nL own D cy ad A) (hO : zOb ci k) (hC : zCl ci y.cls T N) (hc : zCal y bytes maxL ret) (hst : zSel y) (hlk : Cond.methodLinkNest own index y host ∈ zN) (hn : (parseMethodDescriptor y.desc).map (fun d => d.parameters.length) = some n) (hrm : rm.cells = 0 ∧ rm.slots = 0) (hR : rm.frames + 1 ≤ R.frames ∧ 8 + (maxL + 11) + rm.locals ≤ R.locals) (hM : Met l y (.code y bytes maxL ret :: zG) rm (va_Pc (.ref (ad k) :: As) (zPre D cy ad H.size M L h)) Qc 0 0 free) (hW : zWd D cy ad A s H locs M L) (hh : h) (hls : ls.size = nL) (hAn : As.length = n) (hstk : st = As.reverse ++ .ref (ad k) :: rest) (hsum : (rest.map fun v => v.category).sum ≤ 8) (hdg : decode cc pc = .ok (.invokevirtual index, 3)) :
    va_Run p l e R s m args below meth c H locs cells slots 0 0 (F0 m pc ls st) rest (Qc (Value.ref (ad k) :: As).toArray) free :=
  va_runVN X.1 hM ⟨va_cnB n X.1.2.2.2.2 (z_good hc.1) rfl hrm.1 hrm.2 (X.2.2.1 _ hlk) (X.1.2.2.2.2 _ hc.2.1) ⟨hc.2.2.1, hc.2.2.2, hn⟩ hR, X.1.2.2.2.2 _ hst.1, X.1.2.2.2.2 _ hst.2⟩ (z_preV X hW hh hO hC) rfl hAn hls hstk (lv_room hsum) hdg ⟨X.2.2.2.2.2.2.1, X.2.2.2.2.2.2.2⟩
theorem z_ri {a : Array Value} {post : Int32 → Mm → Ml → Prop} (hr : va_Run p l e R s m args below meth c H locs cells slots 0 0 (F0 m pc ls st) rest (va_Qi (fun (r : Int32) (u : Mm × Ml) => post r u.1 u.2) (zAt D cy ad) (zA ad H.size) a) (zA ad H.size)) (X : zCx p R s m args c cells slots cc nL own D cy ad A) (hW : zWd D cy ad A s H locs M L)
    (kk : ∀ (r : Int32) (M1 : Mm) (L1 : Ml) (H1 : Heap) (locs1 : List Loc), post r M1 L1 → zWd D cy ad A s H1 locs1 M1 L1 → W p l e R s m args below meth c H1 locs1 cells slots Q (F0 m (pc + 3) ls (.int r :: rest))) : W p l e R s m args below meth c H locs cells slots Q (F0 m pc ls st) :=
  va_calli hr hW.2 (fun q _ h => z_free X hW q h) (z_free X hW) (fun r u t H1 locs1 ht _ hp hB _ _ hS => kk r u.1 u.2 H1 locs1 hp ⟨by rw [← ht]; exact hB, hS⟩)
theorem z_rl {a : Array Value} {post : Int64 → Mm → Ml → Prop} (hr : va_Run p l e R s m args below meth c H locs cells slots 0 0 (F0 m pc ls st) rest (va_Ql (fun (r : Int64) (u : Mm × Ml) => post r u.1 u.2) (zAt D cy ad) (zA ad H.size) a) (zA ad H.size)) (X : zCx p R s m args c cells slots cc nL own D cy ad A) (hW : zWd D cy ad A s H locs M L)
    (kk : ∀ (r : Int64) (M1 : Mm) (L1 : Ml) (H1 : Heap) (locs1 : List Loc), post r M1 L1 → zWd D cy ad A s H1 locs1 M1 L1 → W p l e R s m args below meth c H1 locs1 cells slots Q (F0 m (pc + 3) ls (.long r :: rest))) : W p l e R s m args below meth c H locs cells slots Q (F0 m pc ls st) :=
  va_calll hr hW.2 (fun q _ h => z_free X hW q h) (z_free X hW) (fun r u t H1 locs1 ht _ hp hB _ _ hS => kk r u.1 u.2 H1 locs1 hp ⟨by rw [← ht]; exact hB, hS⟩)
theorem z_rv {a : Array Value} {post : Mm → Ml → Prop} (hr : va_Run p l e R s m args below meth c H locs cells slots 0 0 (F0 m pc ls st) rest (va_Qv (fun (u : Mm × Ml) => post u.1 u.2) (zAt D cy ad) (zA ad H.size) a) (zA ad H.size)) (X : zCx p R s m args c cells slots cc nL own D cy ad A) (hW : zWd D cy ad A s H locs M L)
    (kk : ∀ (M1 : Mm) (L1 : Ml) (H1 : Heap) (locs1 : List Loc), post M1 L1 → zWd D cy ad A s H1 locs1 M1 L1 → W p l e R s m args below meth c H1 locs1 cells slots Q (F0 m (pc + 3) ls rest)) : W p l e R s m args below meth c H locs cells slots Q (F0 m pc ls st) :=
  va_callv hr hW.2 (fun q _ h => z_free X hW q h) (z_free X hW) (fun u t H1 locs1 ht _ hp hB _ _ hS => kk u.1 u.2 H1 locs1 hp ⟨by rw [← ht]; exact hB, hS⟩)
end ZC
/-- a method that answers an int (or a boolean), out of its walk from the entry -/
theorem zMi_of {l : Launch} {D : va_G} {cy : Nat → ClassId} {ad : Nat → Nat} {y : MethodName} {cc : ByteArray} {maxL : Nat} {ty : FieldType} {rm : Room} {As : List Value} {wp : Mm → Ml → (Int32 → Mm → Ml → Prop) → Prop} (hy : plainName y.cls = true) (hlen : (lg_sl As).length ≤ maxL) (hi : zInj ad)
    (body : ∀ {p : Program} {e : Env} {s : State} {m : MethodId} {args : Array Value} {below : List Frame} {meth : Method} {c : Code} (_ : zCx p rm s m args c 0 0 cc maxL y.cls D cy ad (zA ad s.heap.size)) (M : Mm) (L : Ml) (post : Int32 → Mm → Ml → Prop) {Q : State → Prop} (_ : ∀ (pc : Nat) (ls : Array Slot) (H : Heap) (locs : List Loc) (r : Int32) (M1 : Mm) (L1 : Ml), decode cc pc = .ok (.ireturn, 1) → narrow ty (.int r) = .int r → post r M1 L1 → zWd D cy ad (zA ad s.heap.size) s H locs M1 L1 → W p l e rm s m args below meth c H locs 0 0 Q (F0 m pc ls [.int r])) (ls : Array Slot) (_ : lv_has ls maxL (lv_args 0 As)) (_ : wp M L post) (_ : zWd D cy ad (zA ad s.heap.size) s s.heap [] M L), W p l e rm s m args below meth c s.heap [] 0 0 Q (F0 m 0 ls [])) : zMi l y (.code y cc maxL (some ty) :: zG) rm D cy ad As wp := by
  intro sz M L post
  refine Met.ofW (cc := cc) (maxL := maxL) (ret := some ty) hy rfl ?_
  intro p e s m args below meth c s₁ B hml hv
  obtain ⟨rfl, hsz, hK, hN, hP, hw⟩ := hv
  subst hsz
  have hts := atoms_spec (ws := Cond.code y cc maxL (some ty) :: zG) B.pre
  have hown : s.vm.findClass y.cls = some m.cls := findClass_of_methodNamed B.named
  have X : zCx p rm s m As.toArray c 0 0 cc maxL y.cls D cy ad (zA ad s.heap.size) := ⟨⟨B.exec, B.bytes, hml, hown, fun w h => hts w (List.mem_cons_of_mem _ h)⟩, hK, hN, hi, fun q h => Or.inr h, fun k h => Or.inl ⟨k, h, rfl⟩, Nat.zero_le _, Nat.zero_le _⟩
  have hl := lv_entry As (n := maxL) hlen
  rw [lg_entry_eq]
  have hlocks := B.notSynchronized
  exact body X M L post (fun pc ls H locs r M1 L1 hd hn hp hW => W.zret (v := r) (ty := ty) B.exec B.bytes B.returns hn (fun t ht _ => ⟨⟨r, (M1, L1), rfl, hp, by show va_P _ _ _ t.heap; rw [ht]; exact hW.1⟩, hW.2.F ht⟩) hW.2.2.2 hd) _ hl hw ⟨hP, va_S.rf⟩
theorem zMl_of {l : Launch} {D : va_G} {cy : Nat → ClassId} {ad : Nat → Nat} {y : MethodName} {cc : ByteArray} {maxL : Nat} {rm : Room} {As : List Value} {wp : Mm → Ml → (Int64 → Mm → Ml → Prop) → Prop} (hy : plainName y.cls = true) (hlen : (lg_sl As).length ≤ maxL) (hi : zInj ad)
    (body : ∀ {p : Program} {e : Env} {s : State} {m : MethodId} {args : Array Value} {below : List Frame} {meth : Method} {c : Code} (_ : zCx p rm s m args c 0 0 cc maxL y.cls D cy ad (zA ad s.heap.size)) (M : Mm) (L : Ml) (post : Int64 → Mm → Ml → Prop) {Q : State → Prop} (_ : ∀ (pc : Nat) (ls : Array Slot) (H : Heap) (locs : List Loc) (r : Int64) (M1 : Mm) (L1 : Ml), decode cc pc = .ok (.lreturn, 1) → post r M1 L1 → zWd D cy ad (zA ad s.heap.size) s H locs M1 L1 → W p l e rm s m args below meth c H locs 0 0 Q (F0 m pc ls [.long r])) (ls : Array Slot) (_ : lv_has ls maxL (lv_args 0 As)) (_ : wp M L post) (_ : zWd D cy ad (zA ad s.heap.size) s s.heap [] M L), W p l e rm s m args below meth c s.heap [] 0 0 Q (F0 m 0 ls [])) : zMl l y (.code y cc maxL (some .long) :: zG) rm D cy ad As wp := by
  intro sz M L post
  refine Met.ofW (cc := cc) (maxL := maxL) (ret := some .long) hy rfl ?_
  intro p e s m args below meth c s₁ B hml hv
  obtain ⟨rfl, hsz, hK, hN, hP, hw⟩ := hv
  subst hsz
  have hts := atoms_spec (ws := Cond.code y cc maxL (some .long) :: zG) B.pre
  have hown : s.vm.findClass y.cls = some m.cls := findClass_of_methodNamed B.named
  have X : zCx p rm s m As.toArray c 0 0 cc maxL y.cls D cy ad (zA ad s.heap.size) := ⟨⟨B.exec, B.bytes, hml, hown, fun w h => hts w (List.mem_cons_of_mem _ h)⟩, hK, hN, hi, fun q h => Or.inr h, fun k h => Or.inl ⟨k, h, rfl⟩, Nat.zero_le _, Nat.zero_le _⟩
  have hl := lv_entry As (n := maxL) hlen
  rw [lg_entry_eq]
  have hlocks := B.notSynchronized
  exact body X M L post (fun pc ls H locs r M1 L1 hd hp hW => W.lret (v := r) B.exec B.bytes B.returns (fun t ht _ => ⟨⟨r, (M1, L1), rfl, hp, by show va_P _ _ _ t.heap; rw [ht]; exact hW.1⟩, hW.2.F ht⟩) hW.2.2.2 hd) _ hl hw ⟨hP, va_S.rf⟩
theorem zMv_of {l : Launch} {D : va_G} {cy : Nat → ClassId} {ad : Nat → Nat} {y : MethodName} {cc : ByteArray} {maxL : Nat} {rm : Room} {As : List Value} {wp : Mm → Ml → (Mm → Ml → Prop) → Prop} (hy : plainName y.cls = true) (hlen : (lg_sl As).length ≤ maxL) (hi : zInj ad)
    (body : ∀ {p : Program} {e : Env} {s : State} {m : MethodId} {args : Array Value} {below : List Frame} {meth : Method} {c : Code} (_ : zCx p rm s m args c 0 0 cc maxL y.cls D cy ad (zA ad s.heap.size)) (M : Mm) (L : Ml) (post : Mm → Ml → Prop) {Q : State → Prop} (_ : ∀ (pc : Nat) (ls : Array Slot) (H : Heap) (locs : List Loc) (M1 : Mm) (L1 : Ml), decode cc pc = .ok (.return_, 1) → post M1 L1 → zWd D cy ad (zA ad s.heap.size) s H locs M1 L1 → W p l e rm s m args below meth c H locs 0 0 Q (F0 m pc ls [])) (ls : Array Slot) (_ : lv_has ls maxL (lv_args 0 As)) (_ : wp M L post) (_ : zWd D cy ad (zA ad s.heap.size) s s.heap [] M L), W p l e rm s m args below meth c s.heap [] 0 0 Q (F0 m 0 ls [])) : zMv l y (.code y cc maxL none :: zG) rm D cy ad As wp := by
  intro sz M L post
  refine Met.ofW (cc := cc) (maxL := maxL) (ret := none) hy rfl ?_
  intro p e s m args below meth c s₁ B hml hv
  obtain ⟨rfl, hsz, hK, hN, hP, hw⟩ := hv
  subst hsz
  have hts := atoms_spec (ws := Cond.code y cc maxL none :: zG) B.pre
  have hown : s.vm.findClass y.cls = some m.cls := findClass_of_methodNamed B.named
  have X : zCx p rm s m As.toArray c 0 0 cc maxL y.cls D cy ad (zA ad s.heap.size) := ⟨⟨B.exec, B.bytes, hml, hown, fun w h => hts w (List.mem_cons_of_mem _ h)⟩, hK, hN, hi, fun q h => Or.inr h, fun k h => Or.inl ⟨k, h, rfl⟩, Nat.zero_le _, Nat.zero_le _⟩
  have hl := lv_entry As (n := maxL) hlen
  rw [lg_entry_eq]
  have hlocks := B.notSynchronized
  exact body X M L post (fun pc ls H locs M1 L1 hd hp hW => W.vret B.exec B.bytes B.returns (fun t ht _ => ⟨⟨(M1, L1), rfl, hp, by show va_P _ _ _ t.heap; rw [ht]; exact hW.1⟩, hW.2.F ht⟩) hW.2.2.2 hd) _ hl hw ⟨hP, va_S.rf⟩
